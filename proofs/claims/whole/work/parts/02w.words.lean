theorem g_0 : Cond.initialized "BrokenThreeLaw" ∈ f_GW := f_in1 (List.mem_of_getElem? (i := 0) rfl) rfl
theorem g_1 : Cond.initialized RX11 ∈ f_GW := f_in1 (List.mem_of_getElem? (i := 1) rfl) rfl
theorem g_2 : Cond.initialized RX8 ∈ f_GW := f_in1 (List.mem_of_getElem? (i := 2) rfl) rfl
theorem g_3 : Cond.initialized RX10 ∈ f_GW := f_in1 (List.mem_of_getElem? (i := 3) rfl) rfl
theorem g_4 : Cond.initialized RX5 ∈ f_GW := f_in1 (List.mem_of_getElem? (i := 4) rfl) rfl
theorem g_5 : Cond.initialized RX1 ∈ f_GW := f_in1 (List.mem_of_getElem? (i := 5) rfl) rfl
theorem g_6 : Cond.initialized RX3 ∈ f_GW := f_in1 (List.mem_of_getElem? (i := 6) rfl) rfl
theorem g_7 : Cond.initialized RX7 ∈ f_GW := f_in1 (List.mem_of_getElem? (i := 7) rfl) rfl
theorem g_8 : Cond.initialized RX2 ∈ f_GW := f_in1 (List.mem_of_getElem? (i := 8) rfl) rfl
theorem g_9 : Cond.initialized RJ6 ∈ f_GW := f_in1 (List.mem_of_getElem? (i := 9) rfl) rfl
theorem g_10 : Cond.initialized RX4 ∈ f_GW := f_in1 (List.mem_of_getElem? (i := 10) rfl) rfl
theorem g_11 : Cond.initialized RX6 ∈ f_GW := f_in1 (List.mem_of_getElem? (i := 11) rfl) rfl
theorem g_12 : Cond.initialized RX9 ∈ f_GW := f_in1 (List.mem_of_getElem? (i := 12) rfl) rfl
theorem g_13 : Cond.initialized RX0 ∈ f_GW := f_in1 (List.mem_of_getElem? (i := 13) rfl) rfl
theorem g_14 : Cond.initialized RX12 ∈ f_GW := f_in1 (List.mem_of_getElem? (i := 14) rfl) rfl
theorem g_15 : Cond.initialized RJ9 ∈ f_GW := f_in1 (List.mem_of_getElem? (i := 15) rfl) rfl
theorem g_16 : Cond.initialized RJ0 ∈ f_GW := f_in1 (List.mem_of_getElem? (i := 16) rfl) rfl
theorem g_17 : Cond.initialized RJ1 ∈ f_GW := f_in1 (List.mem_of_getElem? (i := 17) rfl) rfl
theorem g_18 : Cond.initialized RJ3 ∈ f_GW := f_in1 (List.mem_of_getElem? (i := 18) rfl) rfl
theorem g_19 : Cond.initialized RJ2 ∈ f_GW := f_in1 (List.mem_of_getElem? (i := 19) rfl) rfl
theorem g_20 : Cond.classLink "BrokenThreeLaw" 7 RX11 ∈ f_GW := f_in1 (List.mem_of_getElem? (i := 20) rfl) rfl
theorem g_21 : Cond.instantiable RX11 11 ∈ f_GW := f_in1 (List.mem_of_getElem? (i := 21) rfl) rfl
theorem g_22 : Cond.methodLink "BrokenThreeLaw" 9 yX11_init ∈ f_GW := f_in1 (List.mem_of_getElem? (i := 22) rfl) rfl
theorem g_23 : Cond.instanceMethod yX11_init ∈ f_GW := f_in1 (List.mem_of_getElem? (i := 23) rfl) rfl
theorem g_24 : Cond.code yX11_init cX11_init 1 none ∈ f_GW := f_in1 (List.mem_of_getElem? (i := 24) rfl) rfl
theorem g_25 : Cond.methodLink RX11 3 objectInit ∈ f_GW := f_in1 (List.mem_of_getElem? (i := 25) rfl) rfl
theorem g_26 : Cond.instanceMethod objectInit ∈ f_GW := f_in1 (List.mem_of_getElem? (i := 26) rfl) rfl
theorem g_27 : Cond.code objectInit ⟨#[0xb1]⟩ 1 none ∈ f_GW := f_in1 (List.mem_of_getElem? (i := 27) rfl) rfl
theorem g_28 : Cond.classLink RX11 9 RX8 ∈ f_GW := f_in1 (List.mem_of_getElem? (i := 28) rfl) rfl
theorem g_29 : Cond.instantiable RX8 16 ∈ f_GW := f_in1 (List.mem_of_getElem? (i := 29) rfl) rfl
theorem g_30 : Cond.instanceMethod yX8_init ∈ f_GW := f_in1 (List.mem_of_getElem? (i := 31) rfl) rfl
theorem g_31 : Cond.code yX8_init cX8_init 1 none ∈ f_GW := f_in1 (List.mem_of_getElem? (i := 32) rfl) rfl
theorem g_32 : Cond.methodLink RX8 3 objectInit ∈ f_GW := f_in1 (List.mem_of_getElem? (i := 33) rfl) rfl
theorem g_33 : Cond.classLink RX8 21 RX10 ∈ f_GW := f_in1 (List.mem_of_getElem? (i := 34) rfl) rfl
theorem g_34 : Cond.instantiable RX10 8 ∈ f_GW := f_in1 (List.mem_of_getElem? (i := 35) rfl) rfl
theorem g_35 : Cond.instanceMethod yX10_init ∈ f_GW := f_in1 (List.mem_of_getElem? (i := 37) rfl) rfl
theorem g_36 : Cond.code yX10_init cX10_init 1 none ∈ f_GW := f_in1 (List.mem_of_getElem? (i := 38) rfl) rfl
theorem g_37 : Cond.methodLink RX10 3 objectInit ∈ f_GW := f_in1 (List.mem_of_getElem? (i := 39) rfl) rfl
theorem g_38 : Cond.fieldLink RX10 9 "BrokenThree$Yard" "length" "I" ∈ f_GW := f_in1 (List.mem_of_getElem? (i := 40) rfl) rfl
theorem g_39 : Cond.fieldLink RX10 15 "BrokenThree$Yard" "cuts" "I" ∈ f_GW := f_in1 (List.mem_of_getElem? (i := 46) rfl) rfl
theorem g_40 : Cond.fieldLink RX10 31 "BrokenThree$Yard" "rules" "I" ∈ f_GW := f_in1 (List.mem_of_getElem? (i := 51) rfl) rfl
theorem g_41 : Cond.fieldLink RX10 34 "BrokenThree$Yard" "codes" "I" ∈ f_GW := f_in1 (List.mem_of_getElem? (i := 54) rfl) rfl
theorem g_42 : Cond.fieldLink RX10 18 "BrokenThree$Yard" "isPrice" "[I" ∈ f_GW := f_in1 (List.mem_of_getElem? (i := 55) rfl) rfl
theorem g_43 : Cond.fieldLink RX10 22 "BrokenThree$Yard" "numbers" "[I" ∈ f_GW := f_in1 (List.mem_of_getElem? (i := 57) rfl) rfl
theorem g_44 : Cond.fieldLink RX10 25 "BrokenThree$Yard" "codeEnds" "[I" ∈ f_GW := f_in1 (List.mem_of_getElem? (i := 59) rfl) rfl
theorem g_45 : Cond.fieldLink RX10 28 "BrokenThree$Yard" "code" "[I" ∈ f_GW := f_in1 (List.mem_of_getElem? (i := 61) rfl) rfl
theorem g_46 : Cond.lays RX10 "BrokenThree$Yard" "length" "I" ∈ f_GW := f_in1 (List.mem_of_getElem? (i := 63) rfl) rfl
theorem g_47 : Cond.lays RX10 "BrokenThree$Yard" "cuts" "I" ∈ f_GW := f_in1 (List.mem_of_getElem? (i := 65) rfl) rfl
theorem g_48 : Cond.lays RX10 "BrokenThree$Yard" "rules" "I" ∈ f_GW := f_in1 (List.mem_of_getElem? (i := 67) rfl) rfl
theorem g_49 : Cond.lays RX10 "BrokenThree$Yard" "codes" "I" ∈ f_GW := f_in1 (List.mem_of_getElem? (i := 69) rfl) rfl
theorem g_50 : Cond.laysFinal RX10 "BrokenThree$Yard" "isPrice" "[I" ∈ f_GW := f_in1 (List.mem_of_getElem? (i := 71) rfl) rfl
theorem g_51 : Cond.laysFinal RX10 "BrokenThree$Yard" "numbers" "[I" ∈ f_GW := f_in1 (List.mem_of_getElem? (i := 73) rfl) rfl
theorem g_52 : Cond.laysFinal RX10 "BrokenThree$Yard" "codeEnds" "[I" ∈ f_GW := f_in1 (List.mem_of_getElem? (i := 75) rfl) rfl
theorem g_53 : Cond.laysFinal RX10 "BrokenThree$Yard" "code" "[I" ∈ f_GW := f_in1 (List.mem_of_getElem? (i := 77) rfl) rfl
theorem g_54 : Cond.fieldLink RX8 40 "BrokenThree$State" "breakers" "I" ∈ f_GW := f_in1 (List.mem_of_getElem? (i := 81) rfl) rfl
theorem g_55 : Cond.fieldLink RX8 9 "BrokenThree$State" "kinds" "[I" ∈ f_GW := f_in1 (List.mem_of_getElem? (i := 83) rfl) rfl
theorem g_56 : Cond.fieldLink RX8 15 "BrokenThree$State" "values" "[I" ∈ f_GW := f_in1 (List.mem_of_getElem? (i := 86) rfl) rfl
theorem g_57 : Cond.fieldLink RX8 18 "BrokenThree$State" "rows" "[I" ∈ f_GW := f_in1 (List.mem_of_getElem? (i := 89) rfl) rfl
theorem g_58 : Cond.fieldLink RX8 48 "BrokenThree$State" "yards" "I" ∈ f_GW := f_in1 (List.mem_of_getElem? (i := 92) rfl) rfl
theorem g_59 : Cond.fieldLink RX8 24 "BrokenThree$State" "yard" "LBrokenThree$Yard;" ∈ f_GW := f_in1 (List.mem_of_getElem? (i := 94) rfl) rfl
theorem g_60 : Cond.fieldLink RX8 55 "BrokenThree$State" "broken" "I" ∈ f_GW := f_in1 (List.mem_of_getElem? (i := 99) rfl) rfl
theorem g_61 : Cond.fieldLink RX8 58 "BrokenThree$State" "spent" "I" ∈ f_GW := f_in1 (List.mem_of_getElem? (i := 101) rfl) rfl
theorem g_62 : Cond.fieldLink RX8 61 "BrokenThree$State" "signs" "I" ∈ f_GW := f_in1 (List.mem_of_getElem? (i := 105) rfl) rfl
theorem g_63 : Cond.fieldLink RX8 28 "BrokenThree$State" "tape" "[I" ∈ f_GW := f_in1 (List.mem_of_getElem? (i := 106) rfl) rfl
theorem g_64 : Cond.fieldLink RX8 64 "BrokenThree$State" "sticks" "I" ∈ f_GW := f_in1 (List.mem_of_getElem? (i := 109) rfl) rfl
theorem g_65 : Cond.fieldLink RX8 31 "BrokenThree$State" "box" "[I" ∈ f_GW := f_in1 (List.mem_of_getElem? (i := 111) rfl) rfl
theorem g_66 : Cond.fieldLink RX8 67 "BrokenThree$State" "seen" "I" ∈ f_GW := f_in1 (List.mem_of_getElem? (i := 113) rfl) rfl
theorem g_67 : Cond.fieldLink RX8 34 "BrokenThree$State" "sight" "[I" ∈ f_GW := f_in1 (List.mem_of_getElem? (i := 115) rfl) rfl
theorem g_68 : Cond.fieldLink RX8 70 "BrokenThree$State" "booked" "I" ∈ f_GW := f_in1 (List.mem_of_getElem? (i := 118) rfl) rfl
theorem g_69 : Cond.fieldLink RX8 37 "BrokenThree$State" "book" "[I" ∈ f_GW := f_in1 (List.mem_of_getElem? (i := 120) rfl) rfl
theorem g_70 : Cond.lays RX8 "BrokenThree$State" "breakers" "I" ∈ f_GW := f_in1 (List.mem_of_getElem? (i := 122) rfl) rfl
theorem g_71 : Cond.laysFinal RX8 "BrokenThree$State" "kinds" "[I" ∈ f_GW := f_in1 (List.mem_of_getElem? (i := 124) rfl) rfl
theorem g_72 : Cond.laysFinal RX8 "BrokenThree$State" "values" "[I" ∈ f_GW := f_in1 (List.mem_of_getElem? (i := 126) rfl) rfl
theorem g_73 : Cond.laysFinal RX8 "BrokenThree$State" "rows" "[I" ∈ f_GW := f_in1 (List.mem_of_getElem? (i := 128) rfl) rfl
theorem g_74 : Cond.lays RX8 "BrokenThree$State" "yards" "I" ∈ f_GW := f_in1 (List.mem_of_getElem? (i := 130) rfl) rfl
theorem g_75 : Cond.laysFinal RX8 "BrokenThree$State" "yard" "LBrokenThree$Yard;" ∈ f_GW := f_in1 (List.mem_of_getElem? (i := 132) rfl) rfl
theorem g_76 : Cond.lays RX8 "BrokenThree$State" "broken" "I" ∈ f_GW := f_in1 (List.mem_of_getElem? (i := 134) rfl) rfl
theorem g_77 : Cond.lays RX8 "BrokenThree$State" "spent" "I" ∈ f_GW := f_in1 (List.mem_of_getElem? (i := 136) rfl) rfl
theorem g_78 : Cond.lays RX8 "BrokenThree$State" "signs" "I" ∈ f_GW := f_in1 (List.mem_of_getElem? (i := 138) rfl) rfl
theorem g_79 : Cond.laysFinal RX8 "BrokenThree$State" "tape" "[I" ∈ f_GW := f_in1 (List.mem_of_getElem? (i := 140) rfl) rfl
theorem g_80 : Cond.lays RX8 "BrokenThree$State" "sticks" "I" ∈ f_GW := f_in1 (List.mem_of_getElem? (i := 142) rfl) rfl
theorem g_81 : Cond.laysFinal RX8 "BrokenThree$State" "box" "[I" ∈ f_GW := f_in1 (List.mem_of_getElem? (i := 144) rfl) rfl
theorem g_82 : Cond.lays RX8 "BrokenThree$State" "seen" "I" ∈ f_GW := f_in1 (List.mem_of_getElem? (i := 146) rfl) rfl
theorem g_83 : Cond.laysFinal RX8 "BrokenThree$State" "sight" "[I" ∈ f_GW := f_in1 (List.mem_of_getElem? (i := 148) rfl) rfl
theorem g_84 : Cond.lays RX8 "BrokenThree$State" "booked" "I" ∈ f_GW := f_in1 (List.mem_of_getElem? (i := 150) rfl) rfl
theorem g_85 : Cond.laysFinal RX8 "BrokenThree$State" "book" "[I" ∈ f_GW := f_in1 (List.mem_of_getElem? (i := 152) rfl) rfl
theorem g_86 : Cond.classLink RX11 25 RX5 ∈ f_GW := f_in1 (List.mem_of_getElem? (i := 155) rfl) rfl
theorem g_87 : Cond.instantiable RX5 5 ∈ f_GW := f_in1 (List.mem_of_getElem? (i := 156) rfl) rfl
theorem g_88 : Cond.instanceMethod yX5_init ∈ f_GW := f_in1 (List.mem_of_getElem? (i := 158) rfl) rfl
theorem g_89 : Cond.code yX5_init cX5_init 2 none ∈ f_GW := f_in1 (List.mem_of_getElem? (i := 159) rfl) rfl
theorem g_90 : Cond.methodLink RX5 3 objectInit ∈ f_GW := f_in1 (List.mem_of_getElem? (i := 160) rfl) rfl
theorem g_91 : Cond.classLink RX5 9 RX10 ∈ f_GW := f_in1 (List.mem_of_getElem? (i := 161) rfl) rfl
theorem g_92 : Cond.fieldLink RX5 18 "BrokenThree$Reader" "now" "LBrokenThree$State;" ∈ f_GW := f_in1 (List.mem_of_getElem? (i := 163) rfl) rfl
theorem g_93 : Cond.fieldLink RX5 12 "BrokenThree$Reader" "draft" "LBrokenThree$Yard;" ∈ f_GW := f_in1 (List.mem_of_getElem? (i := 164) rfl) rfl
theorem g_94 : Cond.fieldLink RX5 22 "BrokenThree$Reader" "spot" "I" ∈ f_GW := f_in1 (List.mem_of_getElem? (i := 166) rfl) rfl
theorem g_95 : Cond.fieldLink RX5 56 "BrokenThree$Reader" "word" "I" ∈ f_GW := f_in1 (List.mem_of_getElem? (i := 167) rfl) rfl
theorem g_96 : Cond.fieldLink RX5 62 "BrokenThree$Reader" "wordNumber" "I" ∈ f_GW := f_in1 (List.mem_of_getElem? (i := 168) rfl) rfl
theorem g_97 : Cond.laysFinal RX5 "BrokenThree$Reader" "now" "LBrokenThree$State;" ∈ f_GW := f_in1 (List.mem_of_getElem? (i := 169) rfl) rfl
theorem g_98 : Cond.laysFinal RX5 "BrokenThree$Reader" "draft" "LBrokenThree$Yard;" ∈ f_GW := f_in1 (List.mem_of_getElem? (i := 171) rfl) rfl
theorem g_99 : Cond.lays RX5 "BrokenThree$Reader" "spot" "I" ∈ f_GW := f_in1 (List.mem_of_getElem? (i := 173) rfl) rfl
theorem g_100 : Cond.lays RX5 "BrokenThree$Reader" "word" "I" ∈ f_GW := f_in1 (List.mem_of_getElem? (i := 175) rfl) rfl
theorem g_101 : Cond.lays RX5 "BrokenThree$Reader" "wordNumber" "I" ∈ f_GW := f_in1 (List.mem_of_getElem? (i := 177) rfl) rfl
theorem g_102 : Cond.classLink RX11 34 RX1 ∈ f_GW := f_in1 (List.mem_of_getElem? (i := 180) rfl) rfl
theorem g_103 : Cond.instantiable RX1 6 ∈ f_GW := f_in1 (List.mem_of_getElem? (i := 181) rfl) rfl
theorem g_104 : Cond.instanceMethod yX1_init ∈ f_GW := f_in1 (List.mem_of_getElem? (i := 183) rfl) rfl
theorem g_105 : Cond.code yX1_init cX1_init 2 none ∈ f_GW := f_in1 (List.mem_of_getElem? (i := 184) rfl) rfl
theorem g_106 : Cond.methodLink RX1 3 objectInit ∈ f_GW := f_in1 (List.mem_of_getElem? (i := 185) rfl) rfl
theorem g_107 : Cond.classLink RX1 25 RX3 ∈ f_GW := f_in1 (List.mem_of_getElem? (i := 186) rfl) rfl
theorem g_108 : Cond.instantiable RX3 6 ∈ f_GW := f_in1 (List.mem_of_getElem? (i := 187) rfl) rfl
theorem g_109 : Cond.instanceMethod yX3_init ∈ f_GW := f_in1 (List.mem_of_getElem? (i := 189) rfl) rfl
theorem g_110 : Cond.code yX3_init cX3_init 2 none ∈ f_GW := f_in1 (List.mem_of_getElem? (i := 190) rfl) rfl
theorem g_111 : Cond.methodLink RX3 3 objectInit ∈ f_GW := f_in1 (List.mem_of_getElem? (i := 191) rfl) rfl
theorem g_112 : Cond.fieldLink RX3 15 "BrokenThree$Judge" "yard" "LBrokenThree$Yard;" ∈ f_GW := f_in1 (List.mem_of_getElem? (i := 192) rfl) rfl
theorem g_113 : Cond.fieldLink RX3 19 "BrokenThree$Judge" "from" "I" ∈ f_GW := f_in1 (List.mem_of_getElem? (i := 193) rfl) rfl
theorem g_114 : Cond.fieldLink RX3 23 "BrokenThree$Judge" "to" "I" ∈ f_GW := f_in1 (List.mem_of_getElem? (i := 194) rfl) rfl
theorem g_115 : Cond.fieldLink RX3 26 "BrokenThree$Judge" "cuts" "I" ∈ f_GW := f_in1 (List.mem_of_getElem? (i := 195) rfl) rfl
theorem g_116 : Cond.fieldLink RX3 29 "BrokenThree$Judge" "kind" "I" ∈ f_GW := f_in1 (List.mem_of_getElem? (i := 196) rfl) rfl
theorem g_117 : Cond.fieldLink RX3 9 "BrokenThree$Judge" "stack" "[I" ∈ f_GW := f_in1 (List.mem_of_getElem? (i := 197) rfl) rfl
theorem g_118 : Cond.laysFinal RX3 "BrokenThree$Judge" "yard" "LBrokenThree$Yard;" ∈ f_GW := f_in1 (List.mem_of_getElem? (i := 198) rfl) rfl
theorem g_119 : Cond.lays RX3 "BrokenThree$Judge" "from" "I" ∈ f_GW := f_in1 (List.mem_of_getElem? (i := 200) rfl) rfl
theorem g_120 : Cond.lays RX3 "BrokenThree$Judge" "to" "I" ∈ f_GW := f_in1 (List.mem_of_getElem? (i := 202) rfl) rfl
theorem g_121 : Cond.lays RX3 "BrokenThree$Judge" "cuts" "I" ∈ f_GW := f_in1 (List.mem_of_getElem? (i := 204) rfl) rfl
theorem g_122 : Cond.lays RX3 "BrokenThree$Judge" "kind" "I" ∈ f_GW := f_in1 (List.mem_of_getElem? (i := 206) rfl) rfl
theorem g_123 : Cond.laysFinal RX3 "BrokenThree$Judge" "stack" "[I" ∈ f_GW := f_in1 (List.mem_of_getElem? (i := 208) rfl) rfl
theorem g_124 : Cond.fieldLink RX1 21 "BrokenThree$Chooser" "now" "LBrokenThree$State;" ∈ f_GW := f_in1 (List.mem_of_getElem? (i := 211) rfl) rfl
theorem g_125 : Cond.fieldLink RX1 36 "BrokenThree$Chooser" "judge" "LBrokenThree$Judge;" ∈ f_GW := f_in1 (List.mem_of_getElem? (i := 212) rfl) rfl
theorem g_126 : Cond.fieldLink RX1 53 "BrokenThree$Chooser" "opens" "I" ∈ f_GW := f_in1 (List.mem_of_getElem? (i := 213) rfl) rfl
theorem g_127 : Cond.fieldLink RX1 9 "BrokenThree$Chooser" "openFrom" "[I" ∈ f_GW := f_in1 (List.mem_of_getElem? (i := 214) rfl) rfl
theorem g_128 : Cond.fieldLink RX1 15 "BrokenThree$Chooser" "openTo" "[I" ∈ f_GW := f_in1 (List.mem_of_getElem? (i := 215) rfl) rfl
theorem g_129 : Cond.fieldLink RX1 18 "BrokenThree$Chooser" "openFree" "[I" ∈ f_GW := f_in1 (List.mem_of_getElem? (i := 216) rfl) rfl
theorem g_130 : Cond.laysFinal RX1 "BrokenThree$Chooser" "now" "LBrokenThree$State;" ∈ f_GW := f_in1 (List.mem_of_getElem? (i := 217) rfl) rfl
theorem g_131 : Cond.laysFinal RX1 "BrokenThree$Chooser" "judge" "LBrokenThree$Judge;" ∈ f_GW := f_in1 (List.mem_of_getElem? (i := 219) rfl) rfl
theorem g_132 : Cond.lays RX1 "BrokenThree$Chooser" "opens" "I" ∈ f_GW := f_in1 (List.mem_of_getElem? (i := 221) rfl) rfl
theorem g_133 : Cond.laysFinal RX1 "BrokenThree$Chooser" "openFrom" "[I" ∈ f_GW := f_in1 (List.mem_of_getElem? (i := 223) rfl) rfl
theorem g_134 : Cond.laysFinal RX1 "BrokenThree$Chooser" "openTo" "[I" ∈ f_GW := f_in1 (List.mem_of_getElem? (i := 225) rfl) rfl
theorem g_135 : Cond.laysFinal RX1 "BrokenThree$Chooser" "openFree" "[I" ∈ f_GW := f_in1 (List.mem_of_getElem? (i := 227) rfl) rfl
theorem g_136 : Cond.classLink RX11 41 RX7 ∈ f_GW := f_in1 (List.mem_of_getElem? (i := 230) rfl) rfl
theorem g_137 : Cond.instantiable RX7 3 ∈ f_GW := f_in1 (List.mem_of_getElem? (i := 231) rfl) rfl
theorem g_138 : Cond.instanceMethod yX7_init ∈ f_GW := f_in1 (List.mem_of_getElem? (i := 233) rfl) rfl
theorem g_139 : Cond.code yX7_init cX7_init 1 none ∈ f_GW := f_in1 (List.mem_of_getElem? (i := 234) rfl) rfl
theorem g_140 : Cond.methodLink RX7 3 objectInit ∈ f_GW := f_in1 (List.mem_of_getElem? (i := 235) rfl) rfl
theorem g_141 : Cond.fieldLink RX7 9 "BrokenThree$Shape" "lengths" "[I" ∈ f_GW := f_in1 (List.mem_of_getElem? (i := 236) rfl) rfl
theorem g_142 : Cond.fieldLink RX7 15 "BrokenThree$Shape" "size" "I" ∈ f_GW := f_in1 (List.mem_of_getElem? (i := 237) rfl) rfl
theorem g_143 : Cond.fieldLink RX7 19 "BrokenThree$Shape" "total" "I" ∈ f_GW := f_in1 (List.mem_of_getElem? (i := 238) rfl) rfl
theorem g_144 : Cond.laysFinal RX7 "BrokenThree$Shape" "lengths" "[I" ∈ f_GW := f_in1 (List.mem_of_getElem? (i := 239) rfl) rfl
theorem g_145 : Cond.lays RX7 "BrokenThree$Shape" "size" "I" ∈ f_GW := f_in2 (List.mem_of_getElem? (i := 1) rfl) rfl
theorem g_146 : Cond.lays RX7 "BrokenThree$Shape" "total" "I" ∈ f_GW := f_in2 (List.mem_of_getElem? (i := 3) rfl) rfl
theorem g_147 : Cond.classLink RX11 48 RX2 ∈ f_GW := f_in2 (List.mem_of_getElem? (i := 6) rfl) rfl
theorem g_148 : Cond.instantiable RX2 7 ∈ f_GW := f_in2 (List.mem_of_getElem? (i := 7) rfl) rfl
theorem g_149 : Cond.instanceMethod yX2_init ∈ f_GW := f_in2 (List.mem_of_getElem? (i := 9) rfl) rfl
theorem g_150 : Cond.code yX2_init cX2_init 7 none ∈ f_GW := f_in2 (List.mem_of_getElem? (i := 10) rfl) rfl
theorem g_151 : Cond.methodLink RX2 3 objectInit ∈ f_GW := f_in2 (List.mem_of_getElem? (i := 11) rfl) rfl
theorem g_152 : Cond.methodLink RX2 31 yX2_addSet ∈ f_GW := f_in2 (List.mem_of_getElem? (i := 12) rfl) rfl
theorem g_153 : Cond.instanceMethod yX2_addSet ∈ f_GW := f_in2 (List.mem_of_getElem? (i := 14) rfl) rfl
theorem g_154 : Cond.code yX2_addSet cX2_addSet 2 none ∈ f_GW := f_in2 (List.mem_of_getElem? (i := 15) rfl) rfl
theorem g_155 : Cond.methodLink RX2 35 yX2_slotOf ∈ f_GW := f_in2 (List.mem_of_getElem? (i := 16) rfl) rfl
theorem g_156 : Cond.static yX2_slotOf ∈ f_GW := f_in2 (List.mem_of_getElem? (i := 17) rfl) rfl
theorem g_157 : Cond.code yX2_slotOf cX2_slotOf 5 (some .int) ∈ f_GW := f_in2 (List.mem_of_getElem? (i := 18) rfl) rfl
theorem g_158 : Cond.fieldLink RX2 43 "BrokenThree$Ends" "BASE" "[I" ∈ f_GW := f_in2 (List.mem_of_getElem? (i := 19) rfl) rfl
theorem g_159 : Cond.methodLink RX2 46 yJ6_bitCount_0f7a4 ∈ f_GW := f_in2 (List.mem_of_getElem? (i := 21) rfl) rfl
theorem g_160 : Cond.static yJ6_bitCount_0f7a4 ∈ f_GW := f_in2 (List.mem_of_getElem? (i := 22) rfl) rfl
theorem g_161 : Cond.code yJ6_bitCount_0f7a4 cJ6_bitCount_0f7a4 1 (some .int) ∈ f_GW := f_in2 (List.mem_of_getElem? (i := 23) rfl) rfl
theorem g_162 : Cond.constant RJ6 265 (1431655765) ∈ f_GW := f_in2 (List.mem_of_getElem? (i := 24) rfl) rfl
theorem g_163 : Cond.constant RJ6 266 (858993459) ∈ f_GW := f_in2 (List.mem_of_getElem? (i := 25) rfl) rfl
theorem g_164 : Cond.constant RJ6 267 (252645135) ∈ f_GW := f_in2 (List.mem_of_getElem? (i := 26) rfl) rfl
theorem g_165 : Cond.static yX11_at ∈ f_GW := f_in2 (List.mem_of_getElem? (i := 28) rfl) rfl
theorem g_166 : Cond.code yX11_at cX11_at 2 (some .int) ∈ f_GW := f_in2 (List.mem_of_getElem? (i := 29) rfl) rfl
theorem g_167 : Cond.methodLink RX2 55 yJ6_numberOfTrailingZeros_0f7a4 ∈ f_GW := f_in2 (List.mem_of_getElem? (i := 30) rfl) rfl
theorem g_168 : Cond.static yJ6_numberOfTrailingZeros_0f7a4 ∈ f_GW := f_in2 (List.mem_of_getElem? (i := 31) rfl) rfl
theorem g_169 : Cond.code yJ6_numberOfTrailingZeros_0f7a4 cJ6_numberOfTrailingZeros_0f7a4 2 (some .int) ∈ f_GW := f_in2 (List.mem_of_getElem? (i := 32) rfl) rfl
theorem g_170 : Cond.constant RJ6 264 (65536) ∈ f_GW := f_in2 (List.mem_of_getElem? (i := 33) rfl) rfl
theorem g_171 : Cond.static yX11_put ∈ f_GW := f_in2 (List.mem_of_getElem? (i := 35) rfl) rfl
theorem g_172 : Cond.code yX11_put cX11_put 3 none ∈ f_GW := f_in2 (List.mem_of_getElem? (i := 36) rfl) rfl
theorem g_173 : Cond.fieldLink RX2 19 "BrokenThree$Ends" "now" "LBrokenThree$State;" ∈ f_GW := f_in2 (List.mem_of_getElem? (i := 37) rfl) rfl
theorem g_174 : Cond.fieldLink RX2 23 "BrokenThree$Ends" "chooser" "LBrokenThree$Chooser;" ∈ f_GW := f_in2 (List.mem_of_getElem? (i := 38) rfl) rfl
theorem g_175 : Cond.fieldLink RX2 27 "BrokenThree$Ends" "pieces" "LBrokenThree$Shape;" ∈ f_GW := f_in2 (List.mem_of_getElem? (i := 39) rfl) rfl
theorem g_176 : Cond.fieldLink RX2 11 "BrokenThree$Ends" "sets" "[I" ∈ f_GW := f_in2 (List.mem_of_getElem? (i := 40) rfl) rfl
theorem g_177 : Cond.fieldLink RX2 15 "BrokenThree$Ends" "weights" "[J" ∈ f_GW := f_in2 (List.mem_of_getElem? (i := 41) rfl) rfl
theorem g_178 : Cond.fieldLink RX2 79 "BrokenThree$Ends" "total" "J" ∈ f_GW := f_in2 (List.mem_of_getElem? (i := 42) rfl) rfl
theorem g_179 : Cond.fieldLink RX2 62 "BrokenThree$Ends" "spent" "J" ∈ f_GW := f_in2 (List.mem_of_getElem? (i := 44) rfl) rfl
theorem g_180 : Cond.laysFinal RX2 "BrokenThree$Ends" "now" "LBrokenThree$State;" ∈ f_GW := f_in2 (List.mem_of_getElem? (i := 46) rfl) rfl
theorem g_181 : Cond.laysFinal RX2 "BrokenThree$Ends" "chooser" "LBrokenThree$Chooser;" ∈ f_GW := f_in2 (List.mem_of_getElem? (i := 48) rfl) rfl
theorem g_182 : Cond.laysFinal RX2 "BrokenThree$Ends" "pieces" "LBrokenThree$Shape;" ∈ f_GW := f_in2 (List.mem_of_getElem? (i := 50) rfl) rfl
theorem g_183 : Cond.laysFinal RX2 "BrokenThree$Ends" "sets" "[I" ∈ f_GW := f_in2 (List.mem_of_getElem? (i := 52) rfl) rfl
theorem g_184 : Cond.laysFinal RX2 "BrokenThree$Ends" "weights" "[J" ∈ f_GW := f_in2 (List.mem_of_getElem? (i := 54) rfl) rfl
theorem g_185 : Cond.lays RX2 "BrokenThree$Ends" "total" "J" ∈ f_GW := f_in2 (List.mem_of_getElem? (i := 56) rfl) rfl
theorem g_186 : Cond.lays RX2 "BrokenThree$Ends" "spent" "J" ∈ f_GW := f_in2 (List.mem_of_getElem? (i := 58) rfl) rfl
theorem g_187 : Cond.classLink RX11 57 RX4 ∈ f_GW := f_in2 (List.mem_of_getElem? (i := 62) rfl) rfl
theorem g_188 : Cond.instantiable RX4 8 ∈ f_GW := f_in2 (List.mem_of_getElem? (i := 63) rfl) rfl
theorem g_189 : Cond.instanceMethod yX4_init ∈ f_GW := f_in2 (List.mem_of_getElem? (i := 65) rfl) rfl
theorem g_190 : Cond.code yX4_init cX4_init 3 none ∈ f_GW := f_in2 (List.mem_of_getElem? (i := 66) rfl) rfl
theorem g_191 : Cond.methodLink RX4 3 objectInit ∈ f_GW := f_in2 (List.mem_of_getElem? (i := 67) rfl) rfl
theorem g_192 : Cond.fieldLink RX4 19 "BrokenThree$Orders" "now" "LBrokenThree$State;" ∈ f_GW := f_in2 (List.mem_of_getElem? (i := 68) rfl) rfl
theorem g_193 : Cond.fieldLink RX4 23 "BrokenThree$Orders" "chooser" "LBrokenThree$Chooser;" ∈ f_GW := f_in2 (List.mem_of_getElem? (i := 69) rfl) rfl
theorem g_194 : Cond.fieldLink RX4 9 "BrokenThree$Orders" "longer" "[I" ∈ f_GW := f_in2 (List.mem_of_getElem? (i := 70) rfl) rfl
theorem g_195 : Cond.fieldLink RX4 40 "BrokenThree$Orders" "breaker" "I" ∈ f_GW := f_in2 (List.mem_of_getElem? (i := 71) rfl) rfl
theorem g_196 : Cond.fieldLink RX4 82 "BrokenThree$Orders" "wanted" "I" ∈ f_GW := f_in2 (List.mem_of_getElem? (i := 72) rfl) rfl
theorem g_197 : Cond.fieldLink RX4 43 "BrokenThree$Orders" "found" "I" ∈ f_GW := f_in2 (List.mem_of_getElem? (i := 73) rfl) rfl
theorem g_198 : Cond.fieldLink RX4 46 "BrokenThree$Orders" "weight" "J" ∈ f_GW := f_in2 (List.mem_of_getElem? (i := 75) rfl) rfl
theorem g_199 : Cond.fieldLink RX4 15 "BrokenThree$Orders" "firstWays" "I" ∈ f_GW := f_in2 (List.mem_of_getElem? (i := 77) rfl) rfl
theorem g_200 : Cond.laysFinal RX4 "BrokenThree$Orders" "now" "LBrokenThree$State;" ∈ f_GW := f_in2 (List.mem_of_getElem? (i := 79) rfl) rfl
theorem g_201 : Cond.laysFinal RX4 "BrokenThree$Orders" "chooser" "LBrokenThree$Chooser;" ∈ f_GW := f_in2 (List.mem_of_getElem? (i := 81) rfl) rfl
theorem g_202 : Cond.laysFinal RX4 "BrokenThree$Orders" "longer" "[I" ∈ f_GW := f_in2 (List.mem_of_getElem? (i := 83) rfl) rfl
theorem g_203 : Cond.lays RX4 "BrokenThree$Orders" "breaker" "I" ∈ f_GW := f_in2 (List.mem_of_getElem? (i := 85) rfl) rfl
theorem g_204 : Cond.lays RX4 "BrokenThree$Orders" "wanted" "I" ∈ f_GW := f_in2 (List.mem_of_getElem? (i := 87) rfl) rfl
theorem g_205 : Cond.lays RX4 "BrokenThree$Orders" "found" "I" ∈ f_GW := f_in2 (List.mem_of_getElem? (i := 89) rfl) rfl
theorem g_206 : Cond.lays RX4 "BrokenThree$Orders" "weight" "J" ∈ f_GW := f_in2 (List.mem_of_getElem? (i := 91) rfl) rfl
theorem g_207 : Cond.lays RX4 "BrokenThree$Orders" "firstWays" "I" ∈ f_GW := f_in2 (List.mem_of_getElem? (i := 93) rfl) rfl
theorem g_208 : Cond.classLink RX11 66 RX6 ∈ f_GW := f_in2 (List.mem_of_getElem? (i := 96) rfl) rfl
theorem g_209 : Cond.instantiable RX6 1 ∈ f_GW := f_in2 (List.mem_of_getElem? (i := 97) rfl) rfl
theorem g_210 : Cond.instanceMethod yX6_init ∈ f_GW := f_in2 (List.mem_of_getElem? (i := 99) rfl) rfl
theorem g_211 : Cond.code yX6_init cX6_init 1 none ∈ f_GW := f_in2 (List.mem_of_getElem? (i := 100) rfl) rfl
theorem g_212 : Cond.methodLink RX6 3 objectInit ∈ f_GW := f_in2 (List.mem_of_getElem? (i := 101) rfl) rfl
theorem g_213 : Cond.fieldLink RX6 9 "BrokenThree$Ring" "onto" "[J" ∈ f_GW := f_in2 (List.mem_of_getElem? (i := 102) rfl) rfl
theorem g_214 : Cond.laysFinal RX6 "BrokenThree$Ring" "onto" "[J" ∈ f_GW := f_in2 (List.mem_of_getElem? (i := 103) rfl) rfl
theorem g_215 : Cond.classLink RX11 73 RX9 ∈ f_GW := f_in2 (List.mem_of_getElem? (i := 106) rfl) rfl
theorem g_216 : Cond.instantiable RX9 4 ∈ f_GW := f_in2 (List.mem_of_getElem? (i := 107) rfl) rfl
theorem g_217 : Cond.instanceMethod yX9_init ∈ f_GW := f_in2 (List.mem_of_getElem? (i := 109) rfl) rfl
theorem g_218 : Cond.code yX9_init cX9_init 1 none ∈ f_GW := f_in2 (List.mem_of_getElem? (i := 110) rfl) rfl
theorem g_219 : Cond.methodLink RX9 3 objectInit ∈ f_GW := f_in2 (List.mem_of_getElem? (i := 111) rfl) rfl
theorem g_220 : Cond.fieldLink RX9 9 "BrokenThree$Triangles" "order" "[I" ∈ f_GW := f_in2 (List.mem_of_getElem? (i := 112) rfl) rfl
theorem g_221 : Cond.fieldLink RX9 15 "BrokenThree$Triangles" "tried" "[I" ∈ f_GW := f_in2 (List.mem_of_getElem? (i := 113) rfl) rfl
theorem g_222 : Cond.fieldLink RX9 18 "BrokenThree$Triangles" "best" "[I" ∈ f_GW := f_in2 (List.mem_of_getElem? (i := 114) rfl) rfl
theorem g_223 : Cond.fieldLink RX9 51 "BrokenThree$Triangles" "most" "I" ∈ f_GW := f_in2 (List.mem_of_getElem? (i := 116) rfl) rfl
theorem g_224 : Cond.laysFinal RX9 "BrokenThree$Triangles" "order" "[I" ∈ f_GW := f_in2 (List.mem_of_getElem? (i := 118) rfl) rfl
theorem g_225 : Cond.laysFinal RX9 "BrokenThree$Triangles" "tried" "[I" ∈ f_GW := f_in2 (List.mem_of_getElem? (i := 120) rfl) rfl
theorem g_226 : Cond.laysFinal RX9 "BrokenThree$Triangles" "best" "[I" ∈ f_GW := f_in2 (List.mem_of_getElem? (i := 122) rfl) rfl
theorem g_227 : Cond.lays RX9 "BrokenThree$Triangles" "most" "I" ∈ f_GW := f_in2 (List.mem_of_getElem? (i := 124) rfl) rfl
theorem g_228 : Cond.classLink RX11 80 RX0 ∈ f_GW := f_in2 (List.mem_of_getElem? (i := 127) rfl) rfl
theorem g_229 : Cond.instantiable RX0 5 ∈ f_GW := f_in2 (List.mem_of_getElem? (i := 128) rfl) rfl
theorem g_230 : Cond.instanceMethod yX0_init ∈ f_GW := f_in2 (List.mem_of_getElem? (i := 130) rfl) rfl
theorem g_231 : Cond.code yX0_init cX0_init 1 none ∈ f_GW := f_in2 (List.mem_of_getElem? (i := 131) rfl) rfl
theorem g_232 : Cond.methodLink RX0 3 objectInit ∈ f_GW := f_in2 (List.mem_of_getElem? (i := 132) rfl) rfl
theorem g_233 : Cond.fieldLink RX0 25 "BrokenThree$Acts" "ran" "I" ∈ f_GW := f_in2 (List.mem_of_getElem? (i := 133) rfl) rfl
theorem g_234 : Cond.fieldLink RX0 9 "BrokenThree$Acts" "bodies" "[I" ∈ f_GW := f_in2 (List.mem_of_getElem? (i := 135) rfl) rfl
theorem g_235 : Cond.fieldLink RX0 15 "BrokenThree$Acts" "number" "I" ∈ f_GW := f_in2 (List.mem_of_getElem? (i := 137) rfl) rfl
theorem g_236 : Cond.fieldLink RX0 19 "BrokenThree$Acts" "kind" "I" ∈ f_GW := f_in2 (List.mem_of_getElem? (i := 138) rfl) rfl
theorem g_237 : Cond.fieldLink RX0 22 "BrokenThree$Acts" "v" "I" ∈ f_GW := f_in2 (List.mem_of_getElem? (i := 139) rfl) rfl
theorem g_238 : Cond.lays RX0 "BrokenThree$Acts" "ran" "I" ∈ f_GW := f_in2 (List.mem_of_getElem? (i := 140) rfl) rfl
theorem g_239 : Cond.laysFinal RX0 "BrokenThree$Acts" "bodies" "[I" ∈ f_GW := f_in2 (List.mem_of_getElem? (i := 142) rfl) rfl
theorem g_240 : Cond.lays RX0 "BrokenThree$Acts" "number" "I" ∈ f_GW := f_in2 (List.mem_of_getElem? (i := 144) rfl) rfl
theorem g_241 : Cond.lays RX0 "BrokenThree$Acts" "kind" "I" ∈ f_GW := f_in2 (List.mem_of_getElem? (i := 146) rfl) rfl
theorem g_242 : Cond.lays RX0 "BrokenThree$Acts" "v" "I" ∈ f_GW := f_in2 (List.mem_of_getElem? (i := 148) rfl) rfl
theorem g_243 : Cond.fieldLink RX11 12 "BrokenThree" "now" "LBrokenThree$State;" ∈ f_GW := f_in2 (List.mem_of_getElem? (i := 151) rfl) rfl
theorem g_244 : Cond.fieldLink RX11 18 "BrokenThree" "kept" "LBrokenThree$State;" ∈ f_GW := f_in2 (List.mem_of_getElem? (i := 152) rfl) rfl
theorem g_245 : Cond.fieldLink RX11 21 "BrokenThree" "hasImage" "Z" ∈ f_GW := f_in2 (List.mem_of_getElem? (i := 153) rfl) rfl
theorem g_246 : Cond.fieldLink RX11 30 "BrokenThree" "reader" "LBrokenThree$Reader;" ∈ f_GW := f_in2 (List.mem_of_getElem? (i := 154) rfl) rfl
theorem g_247 : Cond.fieldLink RX11 37 "BrokenThree" "chooser" "LBrokenThree$Chooser;" ∈ f_GW := f_in2 (List.mem_of_getElem? (i := 155) rfl) rfl
theorem g_248 : Cond.fieldLink RX11 53 "BrokenThree" "ends" "LBrokenThree$Ends;" ∈ f_GW := f_in2 (List.mem_of_getElem? (i := 156) rfl) rfl
theorem g_249 : Cond.fieldLink RX11 62 "BrokenThree" "follower" "LBrokenThree$Orders;" ∈ f_GW := f_in2 (List.mem_of_getElem? (i := 157) rfl) rfl
theorem g_250 : Cond.fieldLink RX11 44 "BrokenThree" "pieces" "LBrokenThree$Shape;" ∈ f_GW := f_in2 (List.mem_of_getElem? (i := 158) rfl) rfl
theorem g_251 : Cond.fieldLink RX11 69 "BrokenThree" "ring" "LBrokenThree$Ring;" ∈ f_GW := f_in2 (List.mem_of_getElem? (i := 159) rfl) rfl
theorem g_252 : Cond.fieldLink RX11 76 "BrokenThree" "sticks" "LBrokenThree$Triangles;" ∈ f_GW := f_in2 (List.mem_of_getElem? (i := 160) rfl) rfl
theorem g_253 : Cond.fieldLink RX11 83 "BrokenThree" "acts" "LBrokenThree$Acts;" ∈ f_GW := f_in2 (List.mem_of_getElem? (i := 161) rfl) rfl
theorem g_254 : Cond.laysFinal RX11 "BrokenThree" "now" "LBrokenThree$State;" ∈ f_GW := f_in2 (List.mem_of_getElem? (i := 162) rfl) rfl
theorem g_255 : Cond.laysFinal RX11 "BrokenThree" "kept" "LBrokenThree$State;" ∈ f_GW := f_in2 (List.mem_of_getElem? (i := 164) rfl) rfl
theorem g_256 : Cond.lays RX11 "BrokenThree" "hasImage" "Z" ∈ f_GW := f_in2 (List.mem_of_getElem? (i := 166) rfl) rfl
theorem g_257 : Cond.laysFinal RX11 "BrokenThree" "reader" "LBrokenThree$Reader;" ∈ f_GW := f_in2 (List.mem_of_getElem? (i := 168) rfl) rfl
theorem g_258 : Cond.laysFinal RX11 "BrokenThree" "chooser" "LBrokenThree$Chooser;" ∈ f_GW := f_in2 (List.mem_of_getElem? (i := 170) rfl) rfl
theorem g_259 : Cond.laysFinal RX11 "BrokenThree" "ends" "LBrokenThree$Ends;" ∈ f_GW := f_in2 (List.mem_of_getElem? (i := 172) rfl) rfl
theorem g_260 : Cond.laysFinal RX11 "BrokenThree" "follower" "LBrokenThree$Orders;" ∈ f_GW := f_in2 (List.mem_of_getElem? (i := 174) rfl) rfl
theorem g_261 : Cond.laysFinal RX11 "BrokenThree" "pieces" "LBrokenThree$Shape;" ∈ f_GW := f_in2 (List.mem_of_getElem? (i := 176) rfl) rfl
theorem g_262 : Cond.laysFinal RX11 "BrokenThree" "ring" "LBrokenThree$Ring;" ∈ f_GW := f_in2 (List.mem_of_getElem? (i := 178) rfl) rfl
theorem g_263 : Cond.laysFinal RX11 "BrokenThree" "sticks" "LBrokenThree$Triangles;" ∈ f_GW := f_in2 (List.mem_of_getElem? (i := 180) rfl) rfl
theorem g_264 : Cond.laysFinal RX11 "BrokenThree" "acts" "LBrokenThree$Acts;" ∈ f_GW := f_in2 (List.mem_of_getElem? (i := 182) rfl) rfl
theorem g_265 : Cond.methodLink "BrokenThreeLaw" 13 yX11_feed ∈ f_GW := f_in2 (List.mem_of_getElem? (i := 185) rfl) rfl
theorem g_266 : Cond.instanceMethod yX11_feed ∈ f_GW := f_in2 (List.mem_of_getElem? (i := 186) rfl) rfl
theorem g_267 : Cond.selects RX11 yX11_feed yX11_feed ∈ f_GW := f_in2 (List.mem_of_getElem? (i := 187) rfl) rfl
theorem g_268 : Cond.code yX11_feed cX11_feed 2 (some .int) ∈ f_GW := f_in2 (List.mem_of_getElem? (i := 188) rfl) rfl
theorem g_269 : Cond.methodLink RX11 95 yX11_put ∈ f_GW := f_in2 (List.mem_of_getElem? (i := 189) rfl) rfl
theorem g_270 : Cond.methodLink "BrokenThreeLaw" 18 yX11_yard ∈ f_GW := f_in2 (List.mem_of_getElem? (i := 190) rfl) rfl
theorem g_271 : Cond.instanceMethod yX11_yard ∈ f_GW := f_in2 (List.mem_of_getElem? (i := 191) rfl) rfl
theorem g_272 : Cond.selects RX11 yX11_yard yX11_yard ∈ f_GW := f_in2 (List.mem_of_getElem? (i := 192) rfl) rfl
theorem g_273 : Cond.code yX11_yard cX11_yard 2 (some .int) ∈ f_GW := f_in2 (List.mem_of_getElem? (i := 193) rfl) rfl
theorem g_274 : Cond.instanceMethod yX5_faultInTape ∈ f_GW := f_in2 (List.mem_of_getElem? (i := 196) rfl) rfl
theorem g_275 : Cond.code yX5_faultInTape cX5_faultInTape 3 (some .int) ∈ f_GW := f_in2 (List.mem_of_getElem? (i := 197) rfl) rfl
theorem g_276 : Cond.instanceMethod yX10_clear ∈ f_GW := f_in2 (List.mem_of_getElem? (i := 200) rfl) rfl
theorem g_277 : Cond.code yX10_clear cX10_clear 1 none ∈ f_GW := f_in2 (List.mem_of_getElem? (i := 201) rfl) rfl
theorem g_278 : Cond.methodLink RX5 29 yX5_readsHead ∈ f_GW := f_in2 (List.mem_of_getElem? (i := 202) rfl) rfl
theorem g_279 : Cond.instanceMethod yX5_readsHead ∈ f_GW := f_in2 (List.mem_of_getElem? (i := 204) rfl) rfl
theorem g_280 : Cond.code yX5_readsHead cX5_readsHead 2 (some .boolean) ∈ f_GW := f_in2 (List.mem_of_getElem? (i := 205) rfl) rfl
theorem g_281 : Cond.methodLink RX5 52 yX5_sign ∈ f_GW := f_in2 (List.mem_of_getElem? (i := 206) rfl) rfl
theorem g_282 : Cond.instanceMethod yX5_sign ∈ f_GW := f_in2 (List.mem_of_getElem? (i := 208) rfl) rfl
theorem g_283 : Cond.code yX5_sign cX5_sign 1 (some .int) ∈ f_GW := f_in2 (List.mem_of_getElem? (i := 209) rfl) rfl
theorem g_284 : Cond.methodLink RX5 36 yX5_takes ∈ f_GW := f_in2 (List.mem_of_getElem? (i := 210) rfl) rfl
theorem g_285 : Cond.instanceMethod yX5_takes ∈ f_GW := f_in2 (List.mem_of_getElem? (i := 212) rfl) rfl
theorem g_286 : Cond.code yX5_takes cX5_takes 2 (some .boolean) ∈ f_GW := f_in2 (List.mem_of_getElem? (i := 213) rfl) rfl
theorem g_287 : Cond.methodLink RX5 59 yX5_number ∈ f_GW := f_in2 (List.mem_of_getElem? (i := 214) rfl) rfl
theorem g_288 : Cond.instanceMethod yX5_number ∈ f_GW := f_in2 (List.mem_of_getElem? (i := 216) rfl) rfl
theorem g_289 : Cond.code yX5_number cX5_number 3 (some .int) ∈ f_GW := f_in2 (List.mem_of_getElem? (i := 217) rfl) rfl
theorem g_290 : Cond.methodLink RX5 33 yX5_hasRule ∈ f_GW := f_in2 (List.mem_of_getElem? (i := 218) rfl) rfl
theorem g_291 : Cond.instanceMethod yX5_hasRule ∈ f_GW := f_in2 (List.mem_of_getElem? (i := 220) rfl) rfl
theorem g_292 : Cond.code yX5_hasRule cX5_hasRule 1 (some .boolean) ∈ f_GW := f_in2 (List.mem_of_getElem? (i := 221) rfl) rfl
theorem g_293 : Cond.methodLink RX5 40 yX5_readsEither ∈ f_GW := f_in2 (List.mem_of_getElem? (i := 222) rfl) rfl
theorem g_294 : Cond.instanceMethod yX5_readsEither ∈ f_GW := f_in2 (List.mem_of_getElem? (i := 224) rfl) rfl
theorem g_295 : Cond.code yX5_readsEither cX5_readsEither 3 (some .boolean) ∈ f_GW := f_in2 (List.mem_of_getElem? (i := 225) rfl) rfl
theorem g_296 : Cond.methodLink RX5 84 yX5_readsBoth ∈ f_GW := f_in2 (List.mem_of_getElem? (i := 226) rfl) rfl
theorem g_297 : Cond.instanceMethod yX5_readsBoth ∈ f_GW := f_in2 (List.mem_of_getElem? (i := 228) rfl) rfl
theorem g_298 : Cond.code yX5_readsBoth cX5_readsBoth 3 (some .boolean) ∈ f_GW := f_in2 (List.mem_of_getElem? (i := 229) rfl) rfl
theorem g_299 : Cond.methodLink RX5 91 yX5_readsFactor ∈ f_GW := f_in2 (List.mem_of_getElem? (i := 230) rfl) rfl
theorem g_300 : Cond.instanceMethod yX5_readsFactor ∈ f_GW := f_in2 (List.mem_of_getElem? (i := 232) rfl) rfl
theorem g_301 : Cond.code yX5_readsFactor cX5_readsFactor 3 (some .boolean) ∈ f_GW := f_in2 (List.mem_of_getElem? (i := 233) rfl) rfl
theorem g_302 : Cond.methodLink RX5 94 yX5_readsTest ∈ f_GW := f_in2 (List.mem_of_getElem? (i := 234) rfl) rfl
theorem g_303 : Cond.instanceMethod yX5_readsTest ∈ f_GW := f_in2 (List.mem_of_getElem? (i := 236) rfl) rfl
theorem g_304 : Cond.code yX5_readsTest cX5_readsTest 4 (some .boolean) ∈ f_GW := f_in2 (List.mem_of_getElem? (i := 237) rfl) rfl
theorem g_305 : Cond.instanceMethod yX10_addCode ∈ f_GW := f_in3 (List.mem_of_getElem? (i := 0) rfl) rfl
theorem g_306 : Cond.code yX10_addCode cX10_addCode 2 none ∈ f_GW := f_in3 (List.mem_of_getElem? (i := 1) rfl) rfl
theorem g_307 : Cond.methodLink RX5 44 yX5_keepClause ∈ f_GW := f_in3 (List.mem_of_getElem? (i := 3) rfl) rfl
theorem g_308 : Cond.instanceMethod yX5_keepClause ∈ f_GW := f_in3 (List.mem_of_getElem? (i := 5) rfl) rfl
theorem g_309 : Cond.code yX5_keepClause cX5_keepClause 1 none ∈ f_GW := f_in3 (List.mem_of_getElem? (i := 6) rfl) rfl
theorem g_310 : Cond.instanceMethod yX10_addRule ∈ f_GW := f_in3 (List.mem_of_getElem? (i := 9) rfl) rfl
theorem g_311 : Cond.code yX10_addRule cX10_addRule 3 none ∈ f_GW := f_in3 (List.mem_of_getElem? (i := 10) rfl) rfl
theorem g_312 : Cond.methodLink RX5 69 yJ9_min_7cf53 ∈ f_GW := f_in3 (List.mem_of_getElem? (i := 11) rfl) rfl
theorem g_313 : Cond.static yJ9_min_7cf53 ∈ f_GW := f_in3 (List.mem_of_getElem? (i := 12) rfl) rfl
theorem g_314 : Cond.code yJ9_min_7cf53 cJ9_min_7cf53 2 (some .int) ∈ f_GW := f_in3 (List.mem_of_getElem? (i := 13) rfl) rfl
theorem g_315 : Cond.methodLink RX5 75 yJ9_max_7cf53 ∈ f_GW := f_in3 (List.mem_of_getElem? (i := 14) rfl) rfl
theorem g_316 : Cond.static yJ9_max_7cf53 ∈ f_GW := f_in3 (List.mem_of_getElem? (i := 15) rfl) rfl
theorem g_317 : Cond.code yJ9_max_7cf53 cJ9_max_7cf53 2 (some .int) ∈ f_GW := f_in3 (List.mem_of_getElem? (i := 16) rfl) rfl
theorem g_318 : Cond.instanceMethod yX10_copy ∈ f_GW := f_in3 (List.mem_of_getElem? (i := 19) rfl) rfl
theorem g_319 : Cond.code yX10_copy cX10_copy 2 none ∈ f_GW := f_in3 (List.mem_of_getElem? (i := 20) rfl) rfl
theorem g_320 : Cond.static yX11_copyRow ∈ f_GW := f_in3 (List.mem_of_getElem? (i := 22) rfl) rfl
theorem g_321 : Cond.code yX11_copyRow cX11_copyRow 3 none ∈ f_GW := f_in3 (List.mem_of_getElem? (i := 23) rfl) rfl
theorem g_322 : Cond.methodLink "BrokenThreeLaw" 23 yX11_breaker ∈ f_GW := f_in3 (List.mem_of_getElem? (i := 24) rfl) rfl
theorem g_323 : Cond.instanceMethod yX11_breaker ∈ f_GW := f_in3 (List.mem_of_getElem? (i := 25) rfl) rfl
theorem g_324 : Cond.selects RX11 yX11_breaker yX11_breaker ∈ f_GW := f_in3 (List.mem_of_getElem? (i := 26) rfl) rfl
theorem g_325 : Cond.code yX11_breaker cX11_breaker 5 (some .int) ∈ f_GW := f_in3 (List.mem_of_getElem? (i := 27) rfl) rfl
theorem g_326 : Cond.methodLink "BrokenThreeLaw" 28 yX11_of ∈ f_GW := f_in3 (List.mem_of_getElem? (i := 28) rfl) rfl
theorem g_327 : Cond.instanceMethod yX11_of ∈ f_GW := f_in3 (List.mem_of_getElem? (i := 29) rfl) rfl
theorem g_328 : Cond.selects RX11 yX11_of yX11_of ∈ f_GW := f_in3 (List.mem_of_getElem? (i := 30) rfl) rfl
theorem g_329 : Cond.code yX11_of cX11_of 4 (some .int) ∈ f_GW := f_in3 (List.mem_of_getElem? (i := 31) rfl) rfl
theorem g_330 : Cond.methodLink RX11 137 yX11_isBreaker ∈ f_GW := f_in3 (List.mem_of_getElem? (i := 32) rfl) rfl
theorem g_331 : Cond.instanceMethod yX11_isBreaker ∈ f_GW := f_in3 (List.mem_of_getElem? (i := 34) rfl) rfl
theorem g_332 : Cond.code yX11_isBreaker cX11_isBreaker 2 (some .boolean) ∈ f_GW := f_in3 (List.mem_of_getElem? (i := 35) rfl) rfl
theorem g_333 : Cond.methodLink RX11 141 yX11_at ∈ f_GW := f_in3 (List.mem_of_getElem? (i := 36) rfl) rfl
theorem g_334 : Cond.instanceMethod yX1_mayBreak ∈ f_GW := f_in3 (List.mem_of_getElem? (i := 39) rfl) rfl
theorem g_335 : Cond.code yX1_mayBreak cX1_mayBreak 9 (some .int) ∈ f_GW := f_in3 (List.mem_of_getElem? (i := 40) rfl) rfl
theorem g_336 : Cond.methodLink RX1 47 yJ6_bitCount_0f7a4 ∈ f_GW := f_in3 (List.mem_of_getElem? (i := 42) rfl) rfl
theorem g_337 : Cond.static yX11_hasBit ∈ f_GW := f_in3 (List.mem_of_getElem? (i := 44) rfl) rfl
theorem g_338 : Cond.code yX11_hasBit cX11_hasBit 2 (some .boolean) ∈ f_GW := f_in3 (List.mem_of_getElem? (i := 45) rfl) rfl
theorem g_339 : Cond.instanceMethod yX3_look ∈ f_GW := f_in3 (List.mem_of_getElem? (i := 48) rfl) rfl
theorem g_340 : Cond.code yX3_look cX3_look 5 none ∈ f_GW := f_in3 (List.mem_of_getElem? (i := 49) rfl) rfl
theorem g_341 : Cond.instanceMethod yX3_freeNotches ∈ f_GW := f_in3 (List.mem_of_getElem? (i := 52) rfl) rfl
theorem g_342 : Cond.code yX3_freeNotches cX3_freeNotches 3 (some .int) ∈ f_GW := f_in3 (List.mem_of_getElem? (i := 53) rfl) rfl
theorem g_343 : Cond.methodLink RX3 32 yX3_innerNotches ∈ f_GW := f_in3 (List.mem_of_getElem? (i := 54) rfl) rfl
theorem g_344 : Cond.instanceMethod yX3_innerNotches ∈ f_GW := f_in3 (List.mem_of_getElem? (i := 56) rfl) rfl
theorem g_345 : Cond.code yX3_innerNotches cX3_innerNotches 1 (some .int) ∈ f_GW := f_in3 (List.mem_of_getElem? (i := 57) rfl) rfl
theorem g_346 : Cond.methodLink RX3 51 yX3_holding ∈ f_GW := f_in3 (List.mem_of_getElem? (i := 59) rfl) rfl
theorem g_347 : Cond.instanceMethod yX3_holding ∈ f_GW := f_in3 (List.mem_of_getElem? (i := 61) rfl) rfl
theorem g_348 : Cond.code yX3_holding cX3_holding 8 (some .int) ∈ f_GW := f_in3 (List.mem_of_getElem? (i := 62) rfl) rfl
theorem g_349 : Cond.methodLink RX3 66 yX3_passing ∈ f_GW := f_in3 (List.mem_of_getElem? (i := 63) rfl) rfl
theorem g_350 : Cond.instanceMethod yX3_passing ∈ f_GW := f_in3 (List.mem_of_getElem? (i := 65) rfl) rfl
theorem g_351 : Cond.code yX3_passing cX3_passing 8 (some .int) ∈ f_GW := f_in3 (List.mem_of_getElem? (i := 66) rfl) rfl
theorem g_352 : Cond.methodLink RX3 73 yJ9_min_7cf53 ∈ f_GW := f_in3 (List.mem_of_getElem? (i := 67) rfl) rfl
theorem g_353 : Cond.methodLink RX1 78 yX1_chosenPiece ∈ f_GW := f_in3 (List.mem_of_getElem? (i := 70) rfl) rfl
theorem g_354 : Cond.instanceMethod yX1_chosenPiece ∈ f_GW := f_in3 (List.mem_of_getElem? (i := 72) rfl) rfl
theorem g_355 : Cond.code yX1_chosenPiece cX1_chosenPiece 4 (some .int) ∈ f_GW := f_in3 (List.mem_of_getElem? (i := 73) rfl) rfl
theorem g_356 : Cond.methodLink RX1 85 yX1_longestOpen ∈ f_GW := f_in3 (List.mem_of_getElem? (i := 74) rfl) rfl
theorem g_357 : Cond.instanceMethod yX1_longestOpen ∈ f_GW := f_in3 (List.mem_of_getElem? (i := 76) rfl) rfl
theorem g_358 : Cond.code yX1_longestOpen cX1_longestOpen 3 (some .int) ∈ f_GW := f_in3 (List.mem_of_getElem? (i := 77) rfl) rfl
theorem g_359 : Cond.methodLink RX1 97 yX1_openLength ∈ f_GW := f_in3 (List.mem_of_getElem? (i := 78) rfl) rfl
theorem g_360 : Cond.instanceMethod yX1_openLength ∈ f_GW := f_in3 (List.mem_of_getElem? (i := 80) rfl) rfl
theorem g_361 : Cond.code yX1_openLength cX1_openLength 2 (some .int) ∈ f_GW := f_in3 (List.mem_of_getElem? (i := 81) rfl) rfl
theorem g_362 : Cond.methodLink RX1 88 yX1_shortestOpen ∈ f_GW := f_in3 (List.mem_of_getElem? (i := 82) rfl) rfl
theorem g_363 : Cond.instanceMethod yX1_shortestOpen ∈ f_GW := f_in3 (List.mem_of_getElem? (i := 84) rfl) rfl
theorem g_364 : Cond.code yX1_shortestOpen cX1_shortestOpen 4 (some .int) ∈ f_GW := f_in3 (List.mem_of_getElem? (i := 85) rfl) rfl
theorem g_365 : Cond.methodLink RX1 82 yX1_farthest ∈ f_GW := f_in3 (List.mem_of_getElem? (i := 86) rfl) rfl
theorem g_366 : Cond.instanceMethod yX1_farthest ∈ f_GW := f_in3 (List.mem_of_getElem? (i := 88) rfl) rfl
theorem g_367 : Cond.code yX1_farthest cX1_farthest 8 (some .int) ∈ f_GW := f_in3 (List.mem_of_getElem? (i := 89) rfl) rfl
theorem g_368 : Cond.methodLink RX1 100 yJ9_min_7cf53 ∈ f_GW := f_in3 (List.mem_of_getElem? (i := 90) rfl) rfl
theorem g_369 : Cond.methodLink RX11 149 yJ6_bitCount_0f7a4 ∈ f_GW := f_in3 (List.mem_of_getElem? (i := 91) rfl) rfl
theorem g_370 : Cond.methodLink RX11 155 yX11_placeOf ∈ f_GW := f_in3 (List.mem_of_getElem? (i := 92) rfl) rfl
theorem g_371 : Cond.static yX11_placeOf ∈ f_GW := f_in3 (List.mem_of_getElem? (i := 93) rfl) rfl
theorem g_372 : Cond.code yX11_placeOf cX11_placeOf 4 (some .int) ∈ f_GW := f_in3 (List.mem_of_getElem? (i := 94) rfl) rfl
theorem g_373 : Cond.methodLink RX11 164 yX11_hasBit ∈ f_GW := f_in3 (List.mem_of_getElem? (i := 95) rfl) rfl
theorem g_374 : Cond.methodLink "BrokenThreeLaw" 32 yX11_row ∈ f_GW := f_in3 (List.mem_of_getElem? (i := 96) rfl) rfl
theorem g_375 : Cond.instanceMethod yX11_row ∈ f_GW := f_in3 (List.mem_of_getElem? (i := 97) rfl) rfl
theorem g_376 : Cond.selects RX11 yX11_row yX11_row ∈ f_GW := f_in3 (List.mem_of_getElem? (i := 98) rfl) rfl
theorem g_377 : Cond.code yX11_row cX11_row 5 (some .int) ∈ f_GW := f_in3 (List.mem_of_getElem? (i := 99) rfl) rfl
theorem g_378 : Cond.methodLink "BrokenThreeLaw" 37 yX11_told ∈ f_GW := f_in3 (List.mem_of_getElem? (i := 100) rfl) rfl
theorem g_379 : Cond.instanceMethod yX11_told ∈ f_GW := f_in3 (List.mem_of_getElem? (i := 101) rfl) rfl
theorem g_380 : Cond.selects RX11 yX11_told yX11_told ∈ f_GW := f_in3 (List.mem_of_getElem? (i := 102) rfl) rfl
theorem g_381 : Cond.code yX11_told cX11_told 2 (some .int) ∈ f_GW := f_in3 (List.mem_of_getElem? (i := 103) rfl) rfl
theorem g_382 : Cond.methodLink "BrokenThreeLaw" 41 yX11_piece ∈ f_GW := f_in3 (List.mem_of_getElem? (i := 104) rfl) rfl
theorem g_383 : Cond.instanceMethod yX11_piece ∈ f_GW := f_in3 (List.mem_of_getElem? (i := 105) rfl) rfl
theorem g_384 : Cond.selects RX11 yX11_piece yX11_piece ∈ f_GW := f_in3 (List.mem_of_getElem? (i := 106) rfl) rfl
theorem g_385 : Cond.code yX11_piece cX11_piece 5 (some .int) ∈ f_GW := f_in3 (List.mem_of_getElem? (i := 107) rfl) rfl
theorem g_386 : Cond.methodLink "BrokenThreeLaw" 45 yX11_breaks ∈ f_GW := f_in3 (List.mem_of_getElem? (i := 108) rfl) rfl
theorem g_387 : Cond.instanceMethod yX11_breaks ∈ f_GW := f_in3 (List.mem_of_getElem? (i := 109) rfl) rfl
theorem g_388 : Cond.selects RX11 yX11_breaks yX11_breaks ∈ f_GW := f_in3 (List.mem_of_getElem? (i := 110) rfl) rfl
theorem g_389 : Cond.code yX11_breaks cX11_breaks 6 (some .int) ∈ f_GW := f_in3 (List.mem_of_getElem? (i := 111) rfl) rfl
theorem g_390 : Cond.instanceMethod yX1_priceOf ∈ f_GW := f_in3 (List.mem_of_getElem? (i := 114) rfl) rfl
theorem g_391 : Cond.code yX1_priceOf cX1_priceOf 7 (some .int) ∈ f_GW := f_in3 (List.mem_of_getElem? (i := 115) rfl) rfl
theorem g_392 : Cond.instanceMethod yX3_priceOf ∈ f_GW := f_in3 (List.mem_of_getElem? (i := 118) rfl) rfl
theorem g_393 : Cond.code yX3_priceOf cX3_priceOf 5 (some .int) ∈ f_GW := f_in3 (List.mem_of_getElem? (i := 119) rfl) rfl
theorem g_394 : Cond.methodLink RX3 55 yJ6_bitCount_0f7a4 ∈ f_GW := f_in3 (List.mem_of_getElem? (i := 120) rfl) rfl
theorem g_395 : Cond.methodLink "BrokenThreeLaw" 49 yX11_whole ∈ f_GW := f_in3 (List.mem_of_getElem? (i := 121) rfl) rfl
theorem g_396 : Cond.instanceMethod yX11_whole ∈ f_GW := f_in3 (List.mem_of_getElem? (i := 122) rfl) rfl
theorem g_397 : Cond.selects RX11 yX11_whole yX11_whole ∈ f_GW := f_in3 (List.mem_of_getElem? (i := 123) rfl) rfl
theorem g_398 : Cond.code yX11_whole cX11_whole 2 (some .int) ∈ f_GW := f_in3 (List.mem_of_getElem? (i := 124) rfl) rfl
theorem g_399 : Cond.methodLink "BrokenThreeLaw" 53 yX11_shape ∈ f_GW := f_in3 (List.mem_of_getElem? (i := 125) rfl) rfl
theorem g_400 : Cond.instanceMethod yX11_shape ∈ f_GW := f_in3 (List.mem_of_getElem? (i := 126) rfl) rfl
theorem g_401 : Cond.selects RX11 yX11_shape yX11_shape ∈ f_GW := f_in3 (List.mem_of_getElem? (i := 127) rfl) rfl
theorem g_402 : Cond.code yX11_shape cX11_shape 2 (some .int) ∈ f_GW := f_in3 (List.mem_of_getElem? (i := 128) rfl) rfl
theorem g_403 : Cond.instanceMethod yX7_lay ∈ f_GW := f_in3 (List.mem_of_getElem? (i := 131) rfl) rfl
theorem g_404 : Cond.code yX7_lay cX7_lay 5 none ∈ f_GW := f_in3 (List.mem_of_getElem? (i := 132) rfl) rfl
theorem g_405 : Cond.methodLink RX7 26 yX7_add ∈ f_GW := f_in3 (List.mem_of_getElem? (i := 134) rfl) rfl
theorem g_406 : Cond.instanceMethod yX7_add ∈ f_GW := f_in3 (List.mem_of_getElem? (i := 136) rfl) rfl
theorem g_407 : Cond.code yX7_add cX7_add 4 none ∈ f_GW := f_in3 (List.mem_of_getElem? (i := 137) rfl) rfl
theorem g_408 : Cond.instanceMethod yX7_closes ∈ f_GW := f_in3 (List.mem_of_getElem? (i := 142) rfl) rfl
theorem g_409 : Cond.code yX7_closes cX7_closes 1 (some .boolean) ∈ f_GW := f_in3 (List.mem_of_getElem? (i := 143) rfl) rfl
theorem g_410 : Cond.methodLink RX7 38 yX7_longest ∈ f_GW := f_in3 (List.mem_of_getElem? (i := 144) rfl) rfl
theorem g_411 : Cond.instanceMethod yX7_longest ∈ f_GW := f_in3 (List.mem_of_getElem? (i := 146) rfl) rfl
theorem g_412 : Cond.code yX7_longest cX7_longest 1 (some .int) ∈ f_GW := f_in3 (List.mem_of_getElem? (i := 147) rfl) rfl
theorem g_413 : Cond.instanceMethod yX7_isSquare ∈ f_GW := f_in3 (List.mem_of_getElem? (i := 150) rfl) rfl
theorem g_414 : Cond.code yX7_isSquare cX7_isSquare 1 (some .boolean) ∈ f_GW := f_in3 (List.mem_of_getElem? (i := 151) rfl) rfl
theorem g_415 : Cond.methodLink RX7 42 yX7_lesserSquares ∈ f_GW := f_in3 (List.mem_of_getElem? (i := 152) rfl) rfl
theorem g_416 : Cond.instanceMethod yX7_lesserSquares ∈ f_GW := f_in3 (List.mem_of_getElem? (i := 154) rfl) rfl
theorem g_417 : Cond.code yX7_lesserSquares cX7_lesserSquares 1 (some .int) ∈ f_GW := f_in3 (List.mem_of_getElem? (i := 155) rfl) rfl
theorem g_418 : Cond.instanceMethod yX7_isBlunt ∈ f_GW := f_in3 (List.mem_of_getElem? (i := 158) rfl) rfl
theorem g_419 : Cond.code yX7_isBlunt cX7_isBlunt 1 (some .boolean) ∈ f_GW := f_in3 (List.mem_of_getElem? (i := 159) rfl) rfl
theorem g_420 : Cond.methodLink RX7 45 yX7_closes ∈ f_GW := f_in3 (List.mem_of_getElem? (i := 160) rfl) rfl
theorem g_421 : Cond.instanceMethod yX7_lengthAt ∈ f_GW := f_in3 (List.mem_of_getElem? (i := 164) rfl) rfl
theorem g_422 : Cond.code yX7_lengthAt cX7_lengthAt 2 (some .int) ∈ f_GW := f_in3 (List.mem_of_getElem? (i := 165) rfl) rfl
theorem g_423 : Cond.methodLink "BrokenThreeLaw" 57 yX11_likely ∈ f_GW := f_in3 (List.mem_of_getElem? (i := 166) rfl) rfl
theorem g_424 : Cond.instanceMethod yX11_likely ∈ f_GW := f_in3 (List.mem_of_getElem? (i := 167) rfl) rfl
theorem g_425 : Cond.selects RX11 yX11_likely yX11_likely ∈ f_GW := f_in3 (List.mem_of_getElem? (i := 168) rfl) rfl
theorem g_426 : Cond.code yX11_likely cX11_likely 5 (some .long) ∈ f_GW := f_in3 (List.mem_of_getElem? (i := 169) rfl) rfl
theorem g_427 : Cond.methodLink RX11 192 yX11_isPart ∈ f_GW := f_in3 (List.mem_of_getElem? (i := 170) rfl) rfl
theorem g_428 : Cond.static yX11_isPart ∈ f_GW := f_in3 (List.mem_of_getElem? (i := 171) rfl) rfl
theorem g_429 : Cond.code yX11_isPart cX11_isPart 1 (some .boolean) ∈ f_GW := f_in3 (List.mem_of_getElem? (i := 172) rfl) rfl
theorem g_430 : Cond.constantLong RX11 195 (-9223372036854775808) ∈ f_GW := f_in3 (List.mem_of_getElem? (i := 173) rfl) rfl
theorem g_431 : Cond.instanceMethod yX2_spread ∈ f_GW := f_in3 (List.mem_of_getElem? (i := 176) rfl) rfl
theorem g_432 : Cond.code yX2_spread cX2_spread 9 none ∈ f_GW := f_in3 (List.mem_of_getElem? (i := 177) rfl) rfl
theorem g_433 : Cond.static yX11_putLong ∈ f_GW := f_in3 (List.mem_of_getElem? (i := 179) rfl) rfl
theorem g_434 : Cond.code yX11_putLong cX11_putLong 4 none ∈ f_GW := f_in3 (List.mem_of_getElem? (i := 180) rfl) rfl
theorem g_435 : Cond.constantLong RX2 66 (129859329600) ∈ f_GW := f_in3 (List.mem_of_getElem? (i := 181) rfl) rfl
theorem g_436 : Cond.methodLink RX2 74 yJ9_max_7cf53 ∈ f_GW := f_in3 (List.mem_of_getElem? (i := 183) rfl) rfl
theorem g_437 : Cond.static yX11_longAt ∈ f_GW := f_in3 (List.mem_of_getElem? (i := 185) rfl) rfl
theorem g_438 : Cond.code yX11_longAt cX11_longAt 2 (some .long) ∈ f_GW := f_in3 (List.mem_of_getElem? (i := 186) rfl) rfl
theorem g_439 : Cond.methodLink RX2 102 yX2_shareOut ∈ f_GW := f_in3 (List.mem_of_getElem? (i := 188) rfl) rfl
theorem g_440 : Cond.instanceMethod yX2_shareOut ∈ f_GW := f_in3 (List.mem_of_getElem? (i := 190) rfl) rfl
theorem g_441 : Cond.code yX2_shareOut cX2_shareOut 7 none ∈ f_GW := f_in3 (List.mem_of_getElem? (i := 191) rfl) rfl
theorem g_442 : Cond.instanceMethod yX2_weightOf ∈ f_GW := f_in3 (List.mem_of_getElem? (i := 195) rfl) rfl
theorem g_443 : Cond.code yX2_weightOf cX2_weightOf 8 (some .long) ∈ f_GW := f_in3 (List.mem_of_getElem? (i := 196) rfl) rfl
theorem g_444 : Cond.instanceMethod yX7_fits ∈ f_GW := f_in3 (List.mem_of_getElem? (i := 200) rfl) rfl
theorem g_445 : Cond.code yX7_fits cX7_fits 3 (some .boolean) ∈ f_GW := f_in3 (List.mem_of_getElem? (i := 201) rfl) rfl
theorem g_446 : Cond.methodLink RX7 49 yX7_isSquare ∈ f_GW := f_in3 (List.mem_of_getElem? (i := 202) rfl) rfl
theorem g_447 : Cond.methodLink RX7 52 yX7_isBlunt ∈ f_GW := f_in3 (List.mem_of_getElem? (i := 203) rfl) rfl
theorem g_448 : Cond.methodLink RX7 55 yX7_lengthAt ∈ f_GW := f_in3 (List.mem_of_getElem? (i := 204) rfl) rfl
theorem g_449 : Cond.methodLink RX7 59 yX7_isUnlike ∈ f_GW := f_in3 (List.mem_of_getElem? (i := 205) rfl) rfl
theorem g_450 : Cond.instanceMethod yX7_isUnlike ∈ f_GW := f_in3 (List.mem_of_getElem? (i := 207) rfl) rfl
theorem g_451 : Cond.code yX7_isUnlike cX7_isUnlike 2 (some .boolean) ∈ f_GW := f_in3 (List.mem_of_getElem? (i := 208) rfl) rfl
theorem g_452 : Cond.methodLink RX7 62 yX7_has ∈ f_GW := f_in3 (List.mem_of_getElem? (i := 209) rfl) rfl
theorem g_453 : Cond.instanceMethod yX7_has ∈ f_GW := f_in3 (List.mem_of_getElem? (i := 211) rfl) rfl
theorem g_454 : Cond.code yX7_has cX7_has 3 (some .boolean) ∈ f_GW := f_in3 (List.mem_of_getElem? (i := 212) rfl) rfl
theorem g_455 : Cond.methodLink RX11 209 yX11_partOf ∈ f_GW := f_in3 (List.mem_of_getElem? (i := 213) rfl) rfl
theorem g_456 : Cond.static yX11_partOf ∈ f_GW := f_in3 (List.mem_of_getElem? (i := 214) rfl) rfl
theorem g_457 : Cond.code yX11_partOf cX11_partOf 12 (some .long) ∈ f_GW := f_in3 (List.mem_of_getElem? (i := 215) rfl) rfl
theorem g_458 : Cond.methodLink "BrokenThreeLaw" 62 yX11_mean ∈ f_GW := f_in3 (List.mem_of_getElem? (i := 216) rfl) rfl
theorem g_459 : Cond.instanceMethod yX11_mean ∈ f_GW := f_in3 (List.mem_of_getElem? (i := 217) rfl) rfl
theorem g_460 : Cond.selects RX11 yX11_mean yX11_mean ∈ f_GW := f_in3 (List.mem_of_getElem? (i := 218) rfl) rfl
theorem g_461 : Cond.code yX11_mean cX11_mean 4 (some .long) ∈ f_GW := f_in3 (List.mem_of_getElem? (i := 219) rfl) rfl
theorem g_462 : Cond.instanceMethod yX2_lengthsAt ∈ f_GW := f_in3 (List.mem_of_getElem? (i := 222) rfl) rfl
theorem g_463 : Cond.code yX2_lengthsAt cX2_lengthsAt 7 (some .long) ∈ f_GW := f_in3 (List.mem_of_getElem? (i := 223) rfl) rfl
theorem g_464 : Cond.methodLink "BrokenThreeLaw" 67 yX11_costs ∈ f_GW := f_in3 (List.mem_of_getElem? (i := 225) rfl) rfl
theorem g_465 : Cond.instanceMethod yX11_costs ∈ f_GW := f_in3 (List.mem_of_getElem? (i := 226) rfl) rfl
theorem g_466 : Cond.selects RX11 yX11_costs yX11_costs ∈ f_GW := f_in3 (List.mem_of_getElem? (i := 227) rfl) rfl
theorem g_467 : Cond.code yX11_costs cX11_costs 3 (some .long) ∈ f_GW := f_in3 (List.mem_of_getElem? (i := 228) rfl) rfl
theorem g_468 : Cond.methodLink "BrokenThreeLaw" 72 yX11_until ∈ f_GW := f_in3 (List.mem_of_getElem? (i := 229) rfl) rfl
theorem g_469 : Cond.instanceMethod yX11_until ∈ f_GW := f_in3 (List.mem_of_getElem? (i := 230) rfl) rfl
theorem g_470 : Cond.selects RX11 yX11_until yX11_until ∈ f_GW := f_in3 (List.mem_of_getElem? (i := 231) rfl) rfl
theorem g_471 : Cond.code yX11_until cX11_until 3 (some .long) ∈ f_GW := f_in3 (List.mem_of_getElem? (i := 232) rfl) rfl
theorem g_472 : Cond.constantLong RX11 219 (2) ∈ f_GW := f_in3 (List.mem_of_getElem? (i := 233) rfl) rfl
theorem g_473 : Cond.methodLink "BrokenThreeLaw" 76 yX11_hidden ∈ f_GW := f_in3 (List.mem_of_getElem? (i := 234) rfl) rfl
theorem g_474 : Cond.instanceMethod yX11_hidden ∈ f_GW := f_in3 (List.mem_of_getElem? (i := 235) rfl) rfl
theorem g_475 : Cond.selects RX11 yX11_hidden yX11_hidden ∈ f_GW := f_in3 (List.mem_of_getElem? (i := 236) rfl) rfl
theorem g_476 : Cond.code yX11_hidden cX11_hidden 8 (some .long) ∈ f_GW := f_in3 (List.mem_of_getElem? (i := 237) rfl) rfl
theorem g_477 : Cond.instanceMethod yX6_coverings ∈ f_GW := f_in4 (List.mem_of_getElem? (i := 0) rfl) rfl
theorem g_478 : Cond.code yX6_coverings cX6_coverings 8 (some .long) ∈ f_GW := f_in4 (List.mem_of_getElem? (i := 1) rfl) rfl
theorem g_479 : Cond.methodLink RX6 15 yX6_countOnto ∈ f_GW := f_in4 (List.mem_of_getElem? (i := 2) rfl) rfl
theorem g_480 : Cond.instanceMethod yX6_countOnto ∈ f_GW := f_in4 (List.mem_of_getElem? (i := 4) rfl) rfl
theorem g_481 : Cond.code yX6_countOnto cX6_countOnto 4 none ∈ f_GW := f_in4 (List.mem_of_getElem? (i := 5) rfl) rfl
theorem g_482 : Cond.methodLink RX6 19 yJ6_bitCount_0f7a4 ∈ f_GW := f_in4 (List.mem_of_getElem? (i := 8) rfl) rfl
theorem g_483 : Cond.methodLink RX6 25 yX6_covers ∈ f_GW := f_in4 (List.mem_of_getElem? (i := 9) rfl) rfl
theorem g_484 : Cond.static yX6_covers ∈ f_GW := f_in4 (List.mem_of_getElem? (i := 10) rfl) rfl
theorem g_485 : Cond.code yX6_covers cX6_covers 7 (some .boolean) ∈ f_GW := f_in4 (List.mem_of_getElem? (i := 11) rfl) rfl
theorem g_486 : Cond.methodLink "BrokenThreeLaw" 80 yX11_box ∈ f_GW := f_in4 (List.mem_of_getElem? (i := 12) rfl) rfl
theorem g_487 : Cond.instanceMethod yX11_box ∈ f_GW := f_in4 (List.mem_of_getElem? (i := 13) rfl) rfl
theorem g_488 : Cond.selects RX11 yX11_box yX11_box ∈ f_GW := f_in4 (List.mem_of_getElem? (i := 14) rfl) rfl
theorem g_489 : Cond.code yX11_box cX11_box 2 (some .int) ∈ f_GW := f_in4 (List.mem_of_getElem? (i := 15) rfl) rfl
theorem g_490 : Cond.methodLink "BrokenThreeLaw" 84 yX11_triangles ∈ f_GW := f_in4 (List.mem_of_getElem? (i := 16) rfl) rfl
theorem g_491 : Cond.instanceMethod yX11_triangles ∈ f_GW := f_in4 (List.mem_of_getElem? (i := 17) rfl) rfl
theorem g_492 : Cond.selects RX11 yX11_triangles yX11_triangles ∈ f_GW := f_in4 (List.mem_of_getElem? (i := 18) rfl) rfl
theorem g_493 : Cond.code yX11_triangles cX11_triangles 1 (some .int) ∈ f_GW := f_in4 (List.mem_of_getElem? (i := 19) rfl) rfl
theorem g_494 : Cond.static yX9_closingTriples ∈ f_GW := f_in4 (List.mem_of_getElem? (i := 21) rfl) rfl
theorem g_495 : Cond.code yX9_closingTriples cX9_closingTriples 6 (some .int) ∈ f_GW := f_in4 (List.mem_of_getElem? (i := 22) rfl) rfl
theorem g_496 : Cond.methodLink RX9 25 yX9_closing ∈ f_GW := f_in4 (List.mem_of_getElem? (i := 24) rfl) rfl
theorem g_497 : Cond.static yX9_closing ∈ f_GW := f_in4 (List.mem_of_getElem? (i := 25) rfl) rfl
theorem g_498 : Cond.code yX9_closing cX9_closing 3 (some .boolean) ∈ f_GW := f_in4 (List.mem_of_getElem? (i := 26) rfl) rfl
theorem g_499 : Cond.methodLink "BrokenThreeLaw" 88 yX11_drawn ∈ f_GW := f_in4 (List.mem_of_getElem? (i := 27) rfl) rfl
theorem g_500 : Cond.instanceMethod yX11_drawn ∈ f_GW := f_in4 (List.mem_of_getElem? (i := 28) rfl) rfl
theorem g_501 : Cond.selects RX11 yX11_drawn yX11_drawn ∈ f_GW := f_in4 (List.mem_of_getElem? (i := 29) rfl) rfl
theorem g_502 : Cond.code yX11_drawn cX11_drawn 3 (some .long) ∈ f_GW := f_in4 (List.mem_of_getElem? (i := 30) rfl) rfl
theorem g_503 : Cond.methodLink "BrokenThreeLaw" 93 yX11_none ∈ f_GW := f_in4 (List.mem_of_getElem? (i := 31) rfl) rfl
theorem g_504 : Cond.instanceMethod yX11_none ∈ f_GW := f_in4 (List.mem_of_getElem? (i := 32) rfl) rfl
theorem g_505 : Cond.selects RX11 yX11_none yX11_none ∈ f_GW := f_in4 (List.mem_of_getElem? (i := 33) rfl) rfl
theorem g_506 : Cond.code yX11_none cX11_none 3 (some .int) ∈ f_GW := f_in4 (List.mem_of_getElem? (i := 34) rfl) rfl
theorem g_507 : Cond.instanceMethod yX9_mostUnclosing ∈ f_GW := f_in4 (List.mem_of_getElem? (i := 37) rfl) rfl
theorem g_508 : Cond.code yX9_mostUnclosing cX9_mostUnclosing 5 (some .int) ∈ f_GW := f_in4 (List.mem_of_getElem? (i := 38) rfl) rfl
theorem g_509 : Cond.methodLink RX9 29 yX9_sort ∈ f_GW := f_in4 (List.mem_of_getElem? (i := 39) rfl) rfl
theorem g_510 : Cond.instanceMethod yX9_sort ∈ f_GW := f_in4 (List.mem_of_getElem? (i := 41) rfl) rfl
theorem g_511 : Cond.code yX9_sort cX9_sort 6 none ∈ f_GW := f_in4 (List.mem_of_getElem? (i := 42) rfl) rfl
theorem g_512 : Cond.methodLink RX9 33 yJ6_bitCount_0f7a4 ∈ f_GW := f_in4 (List.mem_of_getElem? (i := 44) rfl) rfl
theorem g_513 : Cond.methodLink RX9 39 yX9_isUnclosing ∈ f_GW := f_in4 (List.mem_of_getElem? (i := 45) rfl) rfl
theorem g_514 : Cond.instanceMethod yX9_isUnclosing ∈ f_GW := f_in4 (List.mem_of_getElem? (i := 47) rfl) rfl
theorem g_515 : Cond.code yX9_isUnclosing cX9_isUnclosing 9 (some .boolean) ∈ f_GW := f_in4 (List.mem_of_getElem? (i := 48) rfl) rfl
theorem g_516 : Cond.methodLink "BrokenThreeLaw" 97 yX11_stair ∈ f_GW := f_in4 (List.mem_of_getElem? (i := 50) rfl) rfl
theorem g_517 : Cond.instanceMethod yX11_stair ∈ f_GW := f_in4 (List.mem_of_getElem? (i := 51) rfl) rfl
theorem g_518 : Cond.selects RX11 yX11_stair yX11_stair ∈ f_GW := f_in4 (List.mem_of_getElem? (i := 52) rfl) rfl
theorem g_519 : Cond.code yX11_stair cX11_stair 7 (some .int) ∈ f_GW := f_in4 (List.mem_of_getElem? (i := 53) rfl) rfl
theorem g_520 : Cond.methodLink "BrokenThreeLaw" 101 yX11_sawn ∈ f_GW := f_in4 (List.mem_of_getElem? (i := 54) rfl) rfl
theorem g_521 : Cond.instanceMethod yX11_sawn ∈ f_GW := f_in4 (List.mem_of_getElem? (i := 55) rfl) rfl
theorem g_522 : Cond.selects RX11 yX11_sawn yX11_sawn ∈ f_GW := f_in4 (List.mem_of_getElem? (i := 56) rfl) rfl
theorem g_523 : Cond.code yX11_sawn cX11_sawn 3 (some .int) ∈ f_GW := f_in4 (List.mem_of_getElem? (i := 57) rfl) rfl
theorem g_524 : Cond.instanceMethod yX9_sawUp ∈ f_GW := f_in4 (List.mem_of_getElem? (i := 60) rfl) rfl
theorem g_525 : Cond.code yX9_sawUp cX9_sawUp 3 none ∈ f_GW := f_in4 (List.mem_of_getElem? (i := 61) rfl) rfl
theorem g_526 : Cond.methodLink RX9 55 yX9_sawOff ∈ f_GW := f_in4 (List.mem_of_getElem? (i := 62) rfl) rfl
theorem g_527 : Cond.instanceMethod yX9_sawOff ∈ f_GW := f_in4 (List.mem_of_getElem? (i := 64) rfl) rfl
theorem g_528 : Cond.code yX9_sawOff cX9_sawOff 6 none ∈ f_GW := f_in4 (List.mem_of_getElem? (i := 65) rfl) rfl
theorem g_529 : Cond.methodLink RX9 59 yX9_closingTriples ∈ f_GW := f_in4 (List.mem_of_getElem? (i := 66) rfl) rfl
theorem g_530 : Cond.methodLink "BrokenThreeLaw" 105 yX11_see ∈ f_GW := f_in4 (List.mem_of_getElem? (i := 68) rfl) rfl
theorem g_531 : Cond.instanceMethod yX11_see ∈ f_GW := f_in4 (List.mem_of_getElem? (i := 69) rfl) rfl
theorem g_532 : Cond.selects RX11 yX11_see yX11_see ∈ f_GW := f_in4 (List.mem_of_getElem? (i := 70) rfl) rfl
theorem g_533 : Cond.code yX11_see cX11_see 2 (some .int) ∈ f_GW := f_in4 (List.mem_of_getElem? (i := 71) rfl) rfl
theorem g_534 : Cond.methodLink "BrokenThreeLaw" 109 yX11_orders ∈ f_GW := f_in4 (List.mem_of_getElem? (i := 72) rfl) rfl
theorem g_535 : Cond.instanceMethod yX11_orders ∈ f_GW := f_in4 (List.mem_of_getElem? (i := 73) rfl) rfl
theorem g_536 : Cond.selects RX11 yX11_orders yX11_orders ∈ f_GW := f_in4 (List.mem_of_getElem? (i := 74) rfl) rfl
theorem g_537 : Cond.code yX11_orders cX11_orders 2 (some .int) ∈ f_GW := f_in4 (List.mem_of_getElem? (i := 75) rfl) rfl
theorem g_538 : Cond.instanceMethod yX4_follow ∈ f_GW := f_in4 (List.mem_of_getElem? (i := 78) rfl) rfl
theorem g_539 : Cond.code yX4_follow cX4_follow 5 none ∈ f_GW := f_in4 (List.mem_of_getElem? (i := 79) rfl) rfl
theorem g_540 : Cond.methodLink RX4 56 yJ6_bitCount_0f7a4 ∈ f_GW := f_in4 (List.mem_of_getElem? (i := 81) rfl) rfl
theorem g_541 : Cond.methodLink RX4 62 yJ9_max_7cf53 ∈ f_GW := f_in4 (List.mem_of_getElem? (i := 82) rfl) rfl
theorem g_542 : Cond.static yX11_sumOf ∈ f_GW := f_in4 (List.mem_of_getElem? (i := 84) rfl) rfl
theorem g_543 : Cond.code yX11_sumOf cX11_sumOf 4 (some .int) ∈ f_GW := f_in4 (List.mem_of_getElem? (i := 85) rfl) rfl
theorem g_544 : Cond.constantLong RX4 85 (129859329600) ∈ f_GW := f_in4 (List.mem_of_getElem? (i := 86) rfl) rfl
theorem g_545 : Cond.methodLink RX4 87 yX4_breakOn ∈ f_GW := f_in4 (List.mem_of_getElem? (i := 87) rfl) rfl
theorem g_546 : Cond.instanceMethod yX4_breakOn ∈ f_GW := f_in4 (List.mem_of_getElem? (i := 89) rfl) rfl
theorem g_547 : Cond.code yX4_breakOn cX4_breakOn 8 none ∈ f_GW := f_in4 (List.mem_of_getElem? (i := 90) rfl) rfl
theorem g_548 : Cond.methodLink "BrokenThreeLaw" 113 yX11_chance ∈ f_GW := f_in4 (List.mem_of_getElem? (i := 92) rfl) rfl
theorem g_549 : Cond.instanceMethod yX11_chance ∈ f_GW := f_in4 (List.mem_of_getElem? (i := 93) rfl) rfl
theorem g_550 : Cond.selects RX11 yX11_chance yX11_chance ∈ f_GW := f_in4 (List.mem_of_getElem? (i := 94) rfl) rfl
theorem g_551 : Cond.code yX11_chance cX11_chance 3 (some .long) ∈ f_GW := f_in4 (List.mem_of_getElem? (i := 95) rfl) rfl
theorem g_552 : Cond.constantLong RX11 261 (129859329600) ∈ f_GW := f_in4 (List.mem_of_getElem? (i := 96) rfl) rfl
theorem g_553 : Cond.methodLink "BrokenThreeLaw" 117 yX11_lost ∈ f_GW := f_in4 (List.mem_of_getElem? (i := 97) rfl) rfl
theorem g_554 : Cond.instanceMethod yX11_lost ∈ f_GW := f_in4 (List.mem_of_getElem? (i := 98) rfl) rfl
theorem g_555 : Cond.selects RX11 yX11_lost yX11_lost ∈ f_GW := f_in4 (List.mem_of_getElem? (i := 99) rfl) rfl
theorem g_556 : Cond.code yX11_lost cX11_lost 5 (some .int) ∈ f_GW := f_in4 (List.mem_of_getElem? (i := 100) rfl) rfl
theorem g_557 : Cond.methodLink RX11 266 yX11_sumOf ∈ f_GW := f_in4 (List.mem_of_getElem? (i := 101) rfl) rfl
theorem g_558 : Cond.instanceMethod yX4_longerRow ∈ f_GW := f_in4 (List.mem_of_getElem? (i := 104) rfl) rfl
theorem g_559 : Cond.code yX4_longerRow cX4_longerRow 4 (some (.array .int)) ∈ f_GW := f_in4 (List.mem_of_getElem? (i := 105) rfl) rfl
theorem g_560 : Cond.methodLink "BrokenThreeLaw" 121 yX11_who ∈ f_GW := f_in4 (List.mem_of_getElem? (i := 108) rfl) rfl
theorem g_561 : Cond.instanceMethod yX11_who ∈ f_GW := f_in4 (List.mem_of_getElem? (i := 109) rfl) rfl
theorem g_562 : Cond.selects RX11 yX11_who yX11_who ∈ f_GW := f_in4 (List.mem_of_getElem? (i := 110) rfl) rfl
theorem g_563 : Cond.code yX11_who cX11_who 3 (some .int) ∈ f_GW := f_in4 (List.mem_of_getElem? (i := 111) rfl) rfl
theorem g_564 : Cond.methodLink "BrokenThreeLaw" 125 yX11_likeliest ∈ f_GW := f_in4 (List.mem_of_getElem? (i := 112) rfl) rfl
theorem g_565 : Cond.instanceMethod yX11_likeliest ∈ f_GW := f_in4 (List.mem_of_getElem? (i := 113) rfl) rfl
theorem g_566 : Cond.selects RX11 yX11_likeliest yX11_likeliest ∈ f_GW := f_in4 (List.mem_of_getElem? (i := 114) rfl) rfl
theorem g_567 : Cond.code yX11_likeliest cX11_likeliest 7 (some .int) ∈ f_GW := f_in4 (List.mem_of_getElem? (i := 115) rfl) rfl
theorem g_568 : Cond.instanceMethod yX4_comparableWeight ∈ f_GW := f_in4 (List.mem_of_getElem? (i := 118) rfl) rfl
theorem g_569 : Cond.code yX4_comparableWeight cX4_comparableWeight 1 (some .long) ∈ f_GW := f_in4 (List.mem_of_getElem? (i := 119) rfl) rfl
theorem g_570 : Cond.constantLong RX4 91 (720720) ∈ f_GW := f_in4 (List.mem_of_getElem? (i := 120) rfl) rfl
theorem g_571 : Cond.methodLink "BrokenThreeLaw" 129 yX11_book ∈ f_GW := f_in4 (List.mem_of_getElem? (i := 121) rfl) rfl
theorem g_572 : Cond.instanceMethod yX11_book ∈ f_GW := f_in4 (List.mem_of_getElem? (i := 122) rfl) rfl
theorem g_573 : Cond.selects RX11 yX11_book yX11_book ∈ f_GW := f_in4 (List.mem_of_getElem? (i := 123) rfl) rfl
theorem g_574 : Cond.code yX11_book cX11_book 6 (some .int) ∈ f_GW := f_in4 (List.mem_of_getElem? (i := 124) rfl) rfl
theorem g_575 : Cond.methodLink RX11 280 yX11_isLength ∈ f_GW := f_in4 (List.mem_of_getElem? (i := 125) rfl) rfl
theorem g_576 : Cond.static yX11_isLength ∈ f_GW := f_in4 (List.mem_of_getElem? (i := 126) rfl) rfl
theorem g_577 : Cond.code yX11_isLength cX11_isLength 1 (some .boolean) ∈ f_GW := f_in4 (List.mem_of_getElem? (i := 127) rfl) rfl
theorem g_578 : Cond.methodLink "BrokenThreeLaw" 134 yX11_looked ∈ f_GW := f_in4 (List.mem_of_getElem? (i := 128) rfl) rfl
theorem g_579 : Cond.instanceMethod yX11_looked ∈ f_GW := f_in4 (List.mem_of_getElem? (i := 129) rfl) rfl
theorem g_580 : Cond.selects RX11 yX11_looked yX11_looked ∈ f_GW := f_in4 (List.mem_of_getElem? (i := 130) rfl) rfl
theorem g_581 : Cond.code yX11_looked cX11_looked 4 (some .int) ∈ f_GW := f_in4 (List.mem_of_getElem? (i := 131) rfl) rfl
theorem g_582 : Cond.methodLink "BrokenThreeLaw" 138 yX11_act ∈ f_GW := f_in4 (List.mem_of_getElem? (i := 133) rfl) rfl
theorem g_583 : Cond.instanceMethod yX11_act ∈ f_GW := f_in4 (List.mem_of_getElem? (i := 134) rfl) rfl
theorem g_584 : Cond.selects RX11 yX11_act yX11_act ∈ f_GW := f_in4 (List.mem_of_getElem? (i := 135) rfl) rfl
theorem g_585 : Cond.code yX11_act cX11_act 4 (some .int) ∈ f_GW := f_in4 (List.mem_of_getElem? (i := 136) rfl) rfl
theorem g_586 : Cond.instanceMethod yX0_start ∈ f_GW := f_in4 (List.mem_of_getElem? (i := 139) rfl) rfl
theorem g_587 : Cond.code yX0_start cX0_start 6 (some .int) ∈ f_GW := f_in4 (List.mem_of_getElem? (i := 140) rfl) rfl
theorem g_588 : Cond.methodLink RX0 28 yX0_run ∈ f_GW := f_in4 (List.mem_of_getElem? (i := 141) rfl) rfl
theorem g_589 : Cond.instanceMethod yX0_run ∈ f_GW := f_in4 (List.mem_of_getElem? (i := 143) rfl) rfl
theorem g_590 : Cond.code yX0_run cX0_run 8 (some .int) ∈ f_GW := f_in4 (List.mem_of_getElem? (i := 144) rfl) rfl
theorem g_591 : Cond.methodLink RX0 32 yX0_ownerOf ∈ f_GW := f_in4 (List.mem_of_getElem? (i := 145) rfl) rfl
theorem g_592 : Cond.static yX0_ownerOf ∈ f_GW := f_in4 (List.mem_of_getElem? (i := 146) rfl) rfl
theorem g_593 : Cond.code yX0_ownerOf cX0_ownerOf 4 (some .int) ∈ f_GW := f_in4 (List.mem_of_getElem? (i := 147) rfl) rfl
theorem g_594 : Cond.fieldLink RX0 43 "BrokenThree$Acts" "BODIES" "[I" ∈ f_GW := f_in4 (List.mem_of_getElem? (i := 148) rfl) rfl
theorem g_595 : Cond.methodLink "BrokenThreeLaw" 142 yX11_trace ∈ f_GW := f_in4 (List.mem_of_getElem? (i := 154) rfl) rfl
theorem g_596 : Cond.instanceMethod yX11_trace ∈ f_GW := f_in4 (List.mem_of_getElem? (i := 155) rfl) rfl
theorem g_597 : Cond.selects RX11 yX11_trace yX11_trace ∈ f_GW := f_in4 (List.mem_of_getElem? (i := 156) rfl) rfl
theorem g_598 : Cond.code yX11_trace cX11_trace 2 (some .int) ∈ f_GW := f_in4 (List.mem_of_getElem? (i := 157) rfl) rfl
theorem g_599 : Cond.methodLink "BrokenThreeLaw" 146 yX11_as ∈ f_GW := f_in4 (List.mem_of_getElem? (i := 158) rfl) rfl
theorem g_600 : Cond.instanceMethod yX11_as ∈ f_GW := f_in4 (List.mem_of_getElem? (i := 159) rfl) rfl
theorem g_601 : Cond.selects RX11 yX11_as yX11_as ∈ f_GW := f_in4 (List.mem_of_getElem? (i := 160) rfl) rfl
theorem g_602 : Cond.code yX11_as cX11_as 5 (some .int) ∈ f_GW := f_in4 (List.mem_of_getElem? (i := 161) rfl) rfl
theorem g_603 : Cond.fieldLink RX11 300 "BrokenThree" "ABOVE" "[I" ∈ f_GW := f_in4 (List.mem_of_getElem? (i := 162) rfl) rfl
theorem g_604 : Cond.methodLink "BrokenThreeLaw" 150 yX11_image ∈ f_GW := f_in4 (List.mem_of_getElem? (i := 163) rfl) rfl
theorem g_605 : Cond.instanceMethod yX11_image ∈ f_GW := f_in4 (List.mem_of_getElem? (i := 164) rfl) rfl
theorem g_606 : Cond.selects RX11 yX11_image yX11_image ∈ f_GW := f_in4 (List.mem_of_getElem? (i := 165) rfl) rfl
theorem g_607 : Cond.code yX11_image cX11_image 1 (some .int) ∈ f_GW := f_in4 (List.mem_of_getElem? (i := 166) rfl) rfl
theorem g_608 : Cond.instanceMethod yX8_copy ∈ f_GW := f_in4 (List.mem_of_getElem? (i := 169) rfl) rfl
theorem g_609 : Cond.code yX8_copy cX8_copy 2 none ∈ f_GW := f_in4 (List.mem_of_getElem? (i := 170) rfl) rfl
theorem g_610 : Cond.methodLink "BrokenThreeLaw" 154 yX11_undo ∈ f_GW := f_in4 (List.mem_of_getElem? (i := 173) rfl) rfl
theorem g_611 : Cond.instanceMethod yX11_undo ∈ f_GW := f_in4 (List.mem_of_getElem? (i := 174) rfl) rfl
theorem g_612 : Cond.selects RX11 yX11_undo yX11_undo ∈ f_GW := f_in4 (List.mem_of_getElem? (i := 175) rfl) rfl
theorem g_613 : Cond.code yX11_undo cX11_undo 1 (some .int) ∈ f_GW := f_in4 (List.mem_of_getElem? (i := 176) rfl) rfl
theorem g_614 : Cond.methodLink "BrokenThreeLaw" 158 yX11_count ∈ f_GW := f_in4 (List.mem_of_getElem? (i := 177) rfl) rfl
theorem g_615 : Cond.instanceMethod yX11_count ∈ f_GW := f_in4 (List.mem_of_getElem? (i := 178) rfl) rfl
theorem g_616 : Cond.selects RX11 yX11_count yX11_count ∈ f_GW := f_in4 (List.mem_of_getElem? (i := 179) rfl) rfl
theorem g_617 : Cond.code yX11_count cX11_count 2 (some .int) ∈ f_GW := f_in4 (List.mem_of_getElem? (i := 180) rfl) rfl
theorem g_618 : Cond.classLink "BrokenThreeLaw" 10 RX12 ∈ f_GW := f_in4 (List.mem_of_getElem? (i := 181) rfl) rfl
theorem g_619 : Cond.instantiable RX12 39 ∈ f_GW := f_in4 (List.mem_of_getElem? (i := 182) rfl) rfl
theorem g_620 : Cond.methodLink "BrokenThreeLaw" 12 yX12_init ∈ f_GW := f_in4 (List.mem_of_getElem? (i := 183) rfl) rfl
theorem g_621 : Cond.instanceMethod yX12_init ∈ f_GW := f_in4 (List.mem_of_getElem? (i := 184) rfl) rfl
theorem g_622 : Cond.code yX12_init cX12_init 1 none ∈ f_GW := f_in4 (List.mem_of_getElem? (i := 185) rfl) rfl
theorem g_623 : Cond.methodLink RX12 3 objectInit ∈ f_GW := f_in4 (List.mem_of_getElem? (i := 186) rfl) rfl
theorem g_624 : Cond.fieldLink RX12 9 "BrokenThreeModel" "s" "[I" ∈ f_GW := f_in4 (List.mem_of_getElem? (i := 187) rfl) rfl
theorem g_625 : Cond.fieldLink RX12 15 "BrokenThreeModel" "image" "[I" ∈ f_GW := f_in4 (List.mem_of_getElem? (i := 188) rfl) rfl
theorem g_626 : Cond.fieldLink RX12 378 "BrokenThreeModel" "hasImage" "Z" ∈ f_GW := f_in4 (List.mem_of_getElem? (i := 189) rfl) rfl
theorem g_627 : Cond.fieldLink RX12 97 "BrokenThreeModel" "act" "I" ∈ f_GW := f_in4 (List.mem_of_getElem? (i := 190) rfl) rfl
theorem g_628 : Cond.fieldLink RX12 70 "BrokenThreeModel" "spot" "I" ∈ f_GW := f_in4 (List.mem_of_getElem? (i := 191) rfl) rfl
theorem g_629 : Cond.fieldLink RX12 73 "BrokenThreeModel" "end" "I" ∈ f_GW := f_in4 (List.mem_of_getElem? (i := 192) rfl) rfl
theorem g_630 : Cond.fieldLink RX12 76 "BrokenThreeModel" "isWrong" "Z" ∈ f_GW := f_in4 (List.mem_of_getElem? (i := 193) rfl) rfl
theorem g_631 : Cond.fieldLink RX12 100 "BrokenThreeModel" "open" "I" ∈ f_GW := f_in4 (List.mem_of_getElem? (i := 194) rfl) rfl
theorem g_632 : Cond.fieldLink RX12 18 "BrokenThreeModel" "by" "[I" ∈ f_GW := f_in4 (List.mem_of_getElem? (i := 195) rfl) rfl
theorem g_633 : Cond.fieldLink RX12 21 "BrokenThreeModel" "truths" "[Z" ∈ f_GW := f_in4 (List.mem_of_getElem? (i := 196) rfl) rfl
theorem g_634 : Cond.fieldLink RX12 152 "BrokenThreeModel" "hards" "I" ∈ f_GW := f_in4 (List.mem_of_getElem? (i := 197) rfl) rfl
theorem g_635 : Cond.fieldLink RX12 155 "BrokenThreeModel" "prices" "I" ∈ f_GW := f_in4 (List.mem_of_getElem? (i := 198) rfl) rfl
theorem g_636 : Cond.fieldLink RX12 25 "BrokenThreeModel" "froms" "[I" ∈ f_GW := f_in4 (List.mem_of_getElem? (i := 199) rfl) rfl
theorem g_637 : Cond.fieldLink RX12 28 "BrokenThreeModel" "tos" "[I" ∈ f_GW := f_in4 (List.mem_of_getElem? (i := 200) rfl) rfl
theorem g_638 : Cond.fieldLink RX12 31 "BrokenThreeModel" "frees" "[I" ∈ f_GW := f_in4 (List.mem_of_getElem? (i := 201) rfl) rfl
theorem g_639 : Cond.fieldLink RX12 34 "BrokenThreeModel" "paid" "[I" ∈ f_GW := f_in4 (List.mem_of_getElem? (i := 202) rfl) rfl
theorem g_640 : Cond.fieldLink RX12 158 "BrokenThreeModel" "pieces" "I" ∈ f_GW := f_in4 (List.mem_of_getElem? (i := 203) rfl) rfl
theorem g_641 : Cond.fieldLink RX12 37 "BrokenThreeModel" "sorted" "[I" ∈ f_GW := f_in4 (List.mem_of_getElem? (i := 204) rfl) rfl
theorem g_642 : Cond.fieldLink RX12 237 "BrokenThreeModel" "asked" "I" ∈ f_GW := f_in4 (List.mem_of_getElem? (i := 205) rfl) rfl
theorem g_643 : Cond.fieldLink RX12 244 "BrokenThreeModel" "askedN" "I" ∈ f_GW := f_in4 (List.mem_of_getElem? (i := 206) rfl) rfl
theorem g_644 : Cond.fieldLink RX12 240 "BrokenThreeModel" "sum" "J" ∈ f_GW := f_in4 (List.mem_of_getElem? (i := 207) rfl) rfl
theorem g_645 : Cond.fieldLink RX12 269 "BrokenThreeModel" "firstMany" "J" ∈ f_GW := f_in4 (List.mem_of_getElem? (i := 208) rfl) rfl
theorem g_646 : Cond.fieldLink RX12 40 "BrokenThreeModel" "ups" "[J" ∈ f_GW := f_in4 (List.mem_of_getElem? (i := 209) rfl) rfl
theorem g_647 : Cond.fieldLink RX12 44 "BrokenThreeModel" "lows" "[J" ∈ f_GW := f_in4 (List.mem_of_getElem? (i := 210) rfl) rfl
theorem g_648 : Cond.fieldLink RX12 47 "BrokenThreeModel" "covered" "[J" ∈ f_GW := f_in4 (List.mem_of_getElem? (i := 211) rfl) rfl
theorem g_649 : Cond.fieldLink RX12 50 "BrokenThreeModel" "thenCovered" "[J" ∈ f_GW := f_in4 (List.mem_of_getElem? (i := 212) rfl) rfl
theorem g_650 : Cond.fieldLink RX12 296 "BrokenThreeModel" "freeMost" "I" ∈ f_GW := f_in4 (List.mem_of_getElem? (i := 213) rfl) rfl
theorem g_651 : Cond.fieldLink RX12 299 "BrokenThreeModel" "freeSet" "I" ∈ f_GW := f_in4 (List.mem_of_getElem? (i := 214) rfl) rfl
theorem g_652 : Cond.fieldLink RX12 53 "BrokenThreeModel" "saw" "[I" ∈ f_GW := f_in4 (List.mem_of_getElem? (i := 215) rfl) rfl
theorem g_653 : Cond.fieldLink RX12 56 "BrokenThreeModel" "bestSaw" "[I" ∈ f_GW := f_in4 (List.mem_of_getElem? (i := 216) rfl) rfl
theorem g_654 : Cond.fieldLink RX12 311 "BrokenThreeModel" "bestTriangles" "I" ∈ f_GW := f_in4 (List.mem_of_getElem? (i := 217) rfl) rfl
theorem g_655 : Cond.fieldLink RX12 321 "BrokenThreeModel" "rowCuts" "I" ∈ f_GW := f_in4 (List.mem_of_getElem? (i := 218) rfl) rfl
theorem g_656 : Cond.fieldLink RX12 324 "BrokenThreeModel" "ordersMany" "I" ∈ f_GW := f_in4 (List.mem_of_getElem? (i := 219) rfl) rfl
theorem g_657 : Cond.fieldLink RX12 59 "BrokenThreeModel" "bodies" "[I" ∈ f_GW := f_in4 (List.mem_of_getElem? (i := 220) rfl) rfl
theorem g_658 : Cond.fieldLink RX12 342 "BrokenThreeModel" "ran" "I" ∈ f_GW := f_in4 (List.mem_of_getElem? (i := 221) rfl) rfl
theorem g_659 : Cond.fieldLink RX12 351 "BrokenThreeModel" "kind" "I" ∈ f_GW := f_in4 (List.mem_of_getElem? (i := 222) rfl) rfl
theorem g_660 : Cond.fieldLink RX12 348 "BrokenThreeModel" "number" "I" ∈ f_GW := f_in4 (List.mem_of_getElem? (i := 223) rfl) rfl
theorem g_661 : Cond.fieldLink RX12 363 "BrokenThreeModel" "tellsV" "I" ∈ f_GW := f_in4 (List.mem_of_getElem? (i := 224) rfl) rfl
theorem g_662 : Cond.lays RX12 "BrokenThreeModel" "thrown" "I" ∈ f_GW := f_in4 (List.mem_of_getElem? (i := 225) rfl) rfl
theorem g_663 : Cond.laysFinal RX12 "BrokenThreeModel" "s" "[I" ∈ f_GW := f_in4 (List.mem_of_getElem? (i := 227) rfl) rfl
theorem g_664 : Cond.laysFinal RX12 "BrokenThreeModel" "image" "[I" ∈ f_GW := f_in4 (List.mem_of_getElem? (i := 229) rfl) rfl
theorem g_665 : Cond.lays RX12 "BrokenThreeModel" "hasImage" "Z" ∈ f_GW := f_in4 (List.mem_of_getElem? (i := 231) rfl) rfl
theorem g_666 : Cond.lays RX12 "BrokenThreeModel" "act" "I" ∈ f_GW := f_in4 (List.mem_of_getElem? (i := 233) rfl) rfl
theorem g_667 : Cond.lays RX12 "BrokenThreeModel" "spot" "I" ∈ f_GW := f_in4 (List.mem_of_getElem? (i := 235) rfl) rfl
theorem g_668 : Cond.lays RX12 "BrokenThreeModel" "end" "I" ∈ f_GW := f_in4 (List.mem_of_getElem? (i := 237) rfl) rfl
theorem g_669 : Cond.lays RX12 "BrokenThreeModel" "isWrong" "Z" ∈ f_GW := f_in4 (List.mem_of_getElem? (i := 239) rfl) rfl
theorem g_670 : Cond.lays RX12 "BrokenThreeModel" "open" "I" ∈ f_GW := f_in5 (List.mem_of_getElem? (i := 1) rfl) rfl
theorem g_671 : Cond.laysFinal RX12 "BrokenThreeModel" "by" "[I" ∈ f_GW := f_in5 (List.mem_of_getElem? (i := 3) rfl) rfl
theorem g_672 : Cond.laysFinal RX12 "BrokenThreeModel" "truths" "[Z" ∈ f_GW := f_in5 (List.mem_of_getElem? (i := 5) rfl) rfl
theorem g_673 : Cond.lays RX12 "BrokenThreeModel" "hards" "I" ∈ f_GW := f_in5 (List.mem_of_getElem? (i := 7) rfl) rfl
theorem g_674 : Cond.lays RX12 "BrokenThreeModel" "prices" "I" ∈ f_GW := f_in5 (List.mem_of_getElem? (i := 9) rfl) rfl
theorem g_675 : Cond.laysFinal RX12 "BrokenThreeModel" "froms" "[I" ∈ f_GW := f_in5 (List.mem_of_getElem? (i := 11) rfl) rfl
theorem g_676 : Cond.laysFinal RX12 "BrokenThreeModel" "tos" "[I" ∈ f_GW := f_in5 (List.mem_of_getElem? (i := 13) rfl) rfl
theorem g_677 : Cond.laysFinal RX12 "BrokenThreeModel" "frees" "[I" ∈ f_GW := f_in5 (List.mem_of_getElem? (i := 15) rfl) rfl
theorem g_678 : Cond.laysFinal RX12 "BrokenThreeModel" "paid" "[I" ∈ f_GW := f_in5 (List.mem_of_getElem? (i := 17) rfl) rfl
theorem g_679 : Cond.lays RX12 "BrokenThreeModel" "pieces" "I" ∈ f_GW := f_in5 (List.mem_of_getElem? (i := 19) rfl) rfl
theorem g_680 : Cond.laysFinal RX12 "BrokenThreeModel" "sorted" "[I" ∈ f_GW := f_in5 (List.mem_of_getElem? (i := 21) rfl) rfl
theorem g_681 : Cond.lays RX12 "BrokenThreeModel" "asked" "I" ∈ f_GW := f_in5 (List.mem_of_getElem? (i := 23) rfl) rfl
theorem g_682 : Cond.lays RX12 "BrokenThreeModel" "askedN" "I" ∈ f_GW := f_in5 (List.mem_of_getElem? (i := 25) rfl) rfl
theorem g_683 : Cond.lays RX12 "BrokenThreeModel" "sum" "J" ∈ f_GW := f_in5 (List.mem_of_getElem? (i := 27) rfl) rfl
theorem g_684 : Cond.lays RX12 "BrokenThreeModel" "firstMany" "J" ∈ f_GW := f_in5 (List.mem_of_getElem? (i := 29) rfl) rfl
theorem g_685 : Cond.laysFinal RX12 "BrokenThreeModel" "ups" "[J" ∈ f_GW := f_in5 (List.mem_of_getElem? (i := 31) rfl) rfl
theorem g_686 : Cond.laysFinal RX12 "BrokenThreeModel" "lows" "[J" ∈ f_GW := f_in5 (List.mem_of_getElem? (i := 33) rfl) rfl
theorem g_687 : Cond.laysFinal RX12 "BrokenThreeModel" "covered" "[J" ∈ f_GW := f_in5 (List.mem_of_getElem? (i := 35) rfl) rfl
theorem g_688 : Cond.laysFinal RX12 "BrokenThreeModel" "thenCovered" "[J" ∈ f_GW := f_in5 (List.mem_of_getElem? (i := 37) rfl) rfl
theorem g_689 : Cond.lays RX12 "BrokenThreeModel" "freeMost" "I" ∈ f_GW := f_in5 (List.mem_of_getElem? (i := 39) rfl) rfl
theorem g_690 : Cond.lays RX12 "BrokenThreeModel" "freeSet" "I" ∈ f_GW := f_in5 (List.mem_of_getElem? (i := 41) rfl) rfl
theorem g_691 : Cond.laysFinal RX12 "BrokenThreeModel" "saw" "[I" ∈ f_GW := f_in5 (List.mem_of_getElem? (i := 43) rfl) rfl
theorem g_692 : Cond.laysFinal RX12 "BrokenThreeModel" "bestSaw" "[I" ∈ f_GW := f_in5 (List.mem_of_getElem? (i := 45) rfl) rfl
theorem g_693 : Cond.lays RX12 "BrokenThreeModel" "bestTriangles" "I" ∈ f_GW := f_in5 (List.mem_of_getElem? (i := 47) rfl) rfl
theorem g_694 : Cond.lays RX12 "BrokenThreeModel" "rowCuts" "I" ∈ f_GW := f_in5 (List.mem_of_getElem? (i := 49) rfl) rfl
theorem g_695 : Cond.lays RX12 "BrokenThreeModel" "ordersMany" "I" ∈ f_GW := f_in5 (List.mem_of_getElem? (i := 51) rfl) rfl
theorem g_696 : Cond.laysFinal RX12 "BrokenThreeModel" "bodies" "[I" ∈ f_GW := f_in5 (List.mem_of_getElem? (i := 53) rfl) rfl
theorem g_697 : Cond.lays RX12 "BrokenThreeModel" "ran" "I" ∈ f_GW := f_in5 (List.mem_of_getElem? (i := 55) rfl) rfl
theorem g_698 : Cond.lays RX12 "BrokenThreeModel" "kind" "I" ∈ f_GW := f_in5 (List.mem_of_getElem? (i := 57) rfl) rfl
theorem g_699 : Cond.lays RX12 "BrokenThreeModel" "number" "I" ∈ f_GW := f_in5 (List.mem_of_getElem? (i := 59) rfl) rfl
theorem g_700 : Cond.lays RX12 "BrokenThreeModel" "tellsV" "I" ∈ f_GW := f_in5 (List.mem_of_getElem? (i := 61) rfl) rfl
theorem g_701 : Cond.methodLink "BrokenThreeLaw" 17 yX12_feed ∈ f_GW := f_in5 (List.mem_of_getElem? (i := 65) rfl) rfl
theorem g_702 : Cond.instanceMethod yX12_feed ∈ f_GW := f_in5 (List.mem_of_getElem? (i := 66) rfl) rfl
theorem g_703 : Cond.selects RX12 yX12_feed yX12_feed ∈ f_GW := f_in5 (List.mem_of_getElem? (i := 67) rfl) rfl
theorem g_704 : Cond.code yX12_feed cX12_feed 2 (some .int) ∈ f_GW := f_in5 (List.mem_of_getElem? (i := 68) rfl) rfl
theorem g_705 : Cond.methodLink RX12 66 yX12_in ∈ f_GW := f_in5 (List.mem_of_getElem? (i := 69) rfl) rfl
theorem g_706 : Cond.static yX12_in ∈ f_GW := f_in5 (List.mem_of_getElem? (i := 70) rfl) rfl
theorem g_707 : Cond.code yX12_in cX12_in 3 (some .boolean) ∈ f_GW := f_in5 (List.mem_of_getElem? (i := 71) rfl) rfl
theorem g_708 : Cond.methodLink "BrokenThreeLaw" 22 yX12_yard ∈ f_GW := f_in5 (List.mem_of_getElem? (i := 72) rfl) rfl
theorem g_709 : Cond.instanceMethod yX12_yard ∈ f_GW := f_in5 (List.mem_of_getElem? (i := 73) rfl) rfl
theorem g_710 : Cond.selects RX12 yX12_yard yX12_yard ∈ f_GW := f_in5 (List.mem_of_getElem? (i := 74) rfl) rfl
theorem g_711 : Cond.code yX12_yard cX12_yard 2 (some .int) ∈ f_GW := f_in5 (List.mem_of_getElem? (i := 75) rfl) rfl
theorem g_712 : Cond.methodLink RX12 145 yX12_clauseHere ∈ f_GW := f_in5 (List.mem_of_getElem? (i := 76) rfl) rfl
theorem g_713 : Cond.instanceMethod yX12_clauseHere ∈ f_GW := f_in5 (List.mem_of_getElem? (i := 78) rfl) rfl
theorem g_714 : Cond.code yX12_clauseHere cX12_clauseHere 1 none ∈ f_GW := f_in5 (List.mem_of_getElem? (i := 79) rfl) rfl
theorem g_715 : Cond.methodLink RX12 80 yX12_here ∈ f_GW := f_in5 (List.mem_of_getElem? (i := 80) rfl) rfl
theorem g_716 : Cond.instanceMethod yX12_here ∈ f_GW := f_in5 (List.mem_of_getElem? (i := 82) rfl) rfl
theorem g_717 : Cond.code yX12_here cX12_here 1 (some .int) ∈ f_GW := f_in5 (List.mem_of_getElem? (i := 83) rfl) rfl
theorem g_718 : Cond.methodLink RX12 132 yX12_tellsHere ∈ f_GW := f_in5 (List.mem_of_getElem? (i := 85) rfl) rfl
theorem g_719 : Cond.instanceMethod yX12_tellsHere ∈ f_GW := f_in5 (List.mem_of_getElem? (i := 87) rfl) rfl
theorem g_720 : Cond.code yX12_tellsHere cX12_tellsHere 4 none ∈ f_GW := f_in5 (List.mem_of_getElem? (i := 88) rfl) rfl
theorem g_721 : Cond.methodLink RX12 126 yX12_spells ∈ f_GW := f_in5 (List.mem_of_getElem? (i := 89) rfl) rfl
theorem g_722 : Cond.instanceMethod yX12_spells ∈ f_GW := f_in5 (List.mem_of_getElem? (i := 91) rfl) rfl
theorem g_723 : Cond.code yX12_spells cX12_spells 3 none ∈ f_GW := f_in5 (List.mem_of_getElem? (i := 92) rfl) rfl
theorem g_724 : Cond.methodLink RX12 84 yJ0_length_8abf5 ∈ f_GW := f_in5 (List.mem_of_getElem? (i := 93) rfl) rfl
theorem g_725 : Cond.instanceMethod yJ0_length_8abf5 ∈ f_GW := f_in5 (List.mem_of_getElem? (i := 94) rfl) rfl
theorem g_726 : Cond.selects RJ0 yJ0_length_8abf5 yJ0_length_8abf5 ∈ f_GW := f_in5 (List.mem_of_getElem? (i := 95) rfl) rfl
theorem g_727 : Cond.code yJ0_length_8abf5 cJ0_length_8abf5 1 (some .int) ∈ f_GW := f_in5 (List.mem_of_getElem? (i := 96) rfl) rfl
theorem g_728 : Cond.methodLink RJ0 335 yJ0_coder_7d493 ∈ f_GW := f_in5 (List.mem_of_getElem? (i := 97) rfl) rfl
theorem g_729 : Cond.instanceMethod yJ0_coder_7d493 ∈ f_GW := f_in5 (List.mem_of_getElem? (i := 98) rfl) rfl
theorem g_730 : Cond.selects RJ0 yJ0_coder_7d493 yJ0_coder_7d493 ∈ f_GW := f_in5 (List.mem_of_getElem? (i := 99) rfl) rfl
theorem g_731 : Cond.code yJ0_coder_7d493 cJ0_coder_7d493 1 (some .byte) ∈ f_GW := f_in5 (List.mem_of_getElem? (i := 100) rfl) rfl
theorem g_732 : Cond.fieldLink RJ0 38 "java/lang/String" "COMPACT_STRINGS" "Z" ∈ f_GW := f_in5 (List.mem_of_getElem? (i := 101) rfl) rfl
theorem g_733 : Cond.methodLink RX12 89 yJ0_charAt_5068e ∈ f_GW := f_in5 (List.mem_of_getElem? (i := 103) rfl) rfl
theorem g_734 : Cond.instanceMethod yJ0_charAt_5068e ∈ f_GW := f_in5 (List.mem_of_getElem? (i := 104) rfl) rfl
theorem g_735 : Cond.selects RJ0 yJ0_charAt_5068e yJ0_charAt_5068e ∈ f_GW := f_in5 (List.mem_of_getElem? (i := 105) rfl) rfl
theorem g_736 : Cond.code yJ0_charAt_5068e cJ0_charAt_5068e 2 (some .char) ∈ f_GW := f_in5 (List.mem_of_getElem? (i := 106) rfl) rfl
theorem g_737 : Cond.methodLink RJ0 492 yJ0_isLatin1_aae02 ∈ f_GW := f_in5 (List.mem_of_getElem? (i := 107) rfl) rfl
theorem g_738 : Cond.instanceMethod yJ0_isLatin1_aae02 ∈ f_GW := f_in5 (List.mem_of_getElem? (i := 108) rfl) rfl
theorem g_739 : Cond.selects RJ0 yJ0_isLatin1_aae02 yJ0_isLatin1_aae02 ∈ f_GW := f_in5 (List.mem_of_getElem? (i := 109) rfl) rfl
theorem g_740 : Cond.code yJ0_isLatin1_aae02 cJ0_isLatin1_aae02 1 (some .boolean) ∈ f_GW := f_in5 (List.mem_of_getElem? (i := 110) rfl) rfl
theorem g_741 : Cond.methodLink RJ0 495 yJ1_charAt_3b067 ∈ f_GW := f_in5 (List.mem_of_getElem? (i := 111) rfl) rfl
theorem g_742 : Cond.static yJ1_charAt_3b067 ∈ f_GW := f_in5 (List.mem_of_getElem? (i := 112) rfl) rfl
theorem g_743 : Cond.code yJ1_charAt_3b067 cJ1_charAt_3b067 2 (some .char) ∈ f_GW := f_in5 (List.mem_of_getElem? (i := 113) rfl) rfl
theorem g_744 : Cond.methodLink RJ1 9 yJ0_checkIndex_df160 ∈ f_GW := f_in5 (List.mem_of_getElem? (i := 114) rfl) rfl
theorem g_745 : Cond.static yJ0_checkIndex_df160 ∈ f_GW := f_in5 (List.mem_of_getElem? (i := 115) rfl) rfl
theorem g_746 : Cond.code yJ0_checkIndex_df160 cJ0_checkIndex_df160 2 none ∈ f_GW := f_in5 (List.mem_of_getElem? (i := 116) rfl) rfl
theorem g_747 : Cond.fieldLink RJ0 1053 "jdk/internal/util/Preconditions" "SIOOBE_FORMATTER" "Ljava/util/function/BiFunction;" ∈ f_GW := f_in5 (List.mem_of_getElem? (i := 117) rfl) rfl
theorem g_748 : Cond.methodLink RJ0 1059 yJ3_checkIndex_8e157 ∈ f_GW := f_in5 (List.mem_of_getElem? (i := 119) rfl) rfl
theorem g_749 : Cond.static yJ3_checkIndex_8e157 ∈ f_GW := f_in5 (List.mem_of_getElem? (i := 120) rfl) rfl
theorem g_750 : Cond.code yJ3_checkIndex_8e157 cJ3_checkIndex_8e157 3 (some .int) ∈ f_GW := f_in5 (List.mem_of_getElem? (i := 121) rfl) rfl
theorem g_751 : Cond.methodLink RJ0 498 yJ2_charAt_3b067 ∈ f_GW := f_in5 (List.mem_of_getElem? (i := 122) rfl) rfl
theorem g_752 : Cond.static yJ2_charAt_3b067 ∈ f_GW := f_in5 (List.mem_of_getElem? (i := 123) rfl) rfl
theorem g_753 : Cond.code yJ2_charAt_3b067 cJ2_charAt_3b067 2 (some .char) ∈ f_GW := f_in5 (List.mem_of_getElem? (i := 124) rfl) rfl
theorem g_754 : Cond.methodLink RJ2 67 yJ2_checkIndex_2214a ∈ f_GW := f_in5 (List.mem_of_getElem? (i := 125) rfl) rfl
theorem g_755 : Cond.static yJ2_checkIndex_2214a ∈ f_GW := f_in5 (List.mem_of_getElem? (i := 126) rfl) rfl
theorem g_756 : Cond.code yJ2_checkIndex_2214a cJ2_checkIndex_2214a 2 none ∈ f_GW := f_in5 (List.mem_of_getElem? (i := 127) rfl) rfl
theorem g_757 : Cond.methodLink RJ2 48 yJ2_length_9d52b ∈ f_GW := f_in5 (List.mem_of_getElem? (i := 128) rfl) rfl
theorem g_758 : Cond.static yJ2_length_9d52b ∈ f_GW := f_in5 (List.mem_of_getElem? (i := 129) rfl) rfl
theorem g_759 : Cond.code yJ2_length_9d52b cJ2_length_9d52b 1 (some .int) ∈ f_GW := f_in5 (List.mem_of_getElem? (i := 130) rfl) rfl
theorem g_760 : Cond.methodLink RJ2 414 yJ0_checkIndex_df160 ∈ f_GW := f_in5 (List.mem_of_getElem? (i := 131) rfl) rfl
theorem g_761 : Cond.methodLink RJ2 71 yJ2_getChar_3b067 ∈ f_GW := f_in5 (List.mem_of_getElem? (i := 132) rfl) rfl
theorem g_762 : Cond.static yJ2_getChar_3b067 ∈ f_GW := f_in5 (List.mem_of_getElem? (i := 133) rfl) rfl
theorem g_763 : Cond.code yJ2_getChar_3b067 cJ2_getChar_3b067 2 (some .char) ∈ f_GW := f_in5 (List.mem_of_getElem? (i := 134) rfl) rfl
theorem g_764 : Cond.fieldLink RJ2 44 "java/lang/StringUTF16" "$assertionsDisabled" "Z" ∈ f_GW := f_in5 (List.mem_of_getElem? (i := 135) rfl) rfl
theorem g_765 : Cond.fieldLink RJ2 59 "java/lang/StringUTF16" "HI_BYTE_SHIFT" "I" ∈ f_GW := f_in5 (List.mem_of_getElem? (i := 137) rfl) rfl
theorem g_766 : Cond.fieldLink RJ2 63 "java/lang/StringUTF16" "LO_BYTE_SHIFT" "I" ∈ f_GW := f_in5 (List.mem_of_getElem? (i := 139) rfl) rfl
theorem g_767 : Cond.methodLink RX12 93 yX12_must ∈ f_GW := f_in5 (List.mem_of_getElem? (i := 141) rfl) rfl
theorem g_768 : Cond.instanceMethod yX12_must ∈ f_GW := f_in5 (List.mem_of_getElem? (i := 143) rfl) rfl
theorem g_769 : Cond.code yX12_must cX12_must 2 none ∈ f_GW := f_in5 (List.mem_of_getElem? (i := 144) rfl) rfl
theorem g_770 : Cond.methodLink RX12 120 yX12_figures ∈ f_GW := f_in5 (List.mem_of_getElem? (i := 145) rfl) rfl
theorem g_771 : Cond.instanceMethod yX12_figures ∈ f_GW := f_in5 (List.mem_of_getElem? (i := 147) rfl) rfl
theorem g_772 : Cond.code yX12_figures cX12_figures 3 (some .int) ∈ f_GW := f_in5 (List.mem_of_getElem? (i := 148) rfl) rfl
theorem g_773 : Cond.methodLink RX12 140 yX12_much ∈ f_GW := f_in5 (List.mem_of_getElem? (i := 151) rfl) rfl
theorem g_774 : Cond.instanceMethod yX12_much ∈ f_GW := f_in5 (List.mem_of_getElem? (i := 153) rfl) rfl
theorem g_775 : Cond.code yX12_much cX12_much 4 none ∈ f_GW := f_in5 (List.mem_of_getElem? (i := 154) rfl) rfl
theorem g_776 : Cond.methodLink RX12 109 yX12_some ∈ f_GW := f_in5 (List.mem_of_getElem? (i := 155) rfl) rfl
theorem g_777 : Cond.instanceMethod yX12_some ∈ f_GW := f_in5 (List.mem_of_getElem? (i := 157) rfl) rfl
theorem g_778 : Cond.code yX12_some cX12_some 1 none ∈ f_GW := f_in5 (List.mem_of_getElem? (i := 158) rfl) rfl
theorem g_779 : Cond.methodLink RX12 123 yX12_every ∈ f_GW := f_in5 (List.mem_of_getElem? (i := 159) rfl) rfl
theorem g_780 : Cond.instanceMethod yX12_every ∈ f_GW := f_in5 (List.mem_of_getElem? (i := 161) rfl) rfl
theorem g_781 : Cond.code yX12_every cX12_every 1 none ∈ f_GW := f_in5 (List.mem_of_getElem? (i := 162) rfl) rfl
theorem g_782 : Cond.methodLink RX12 103 yX12_factor ∈ f_GW := f_in5 (List.mem_of_getElem? (i := 163) rfl) rfl
theorem g_783 : Cond.instanceMethod yX12_factor ∈ f_GW := f_in5 (List.mem_of_getElem? (i := 165) rfl) rfl
theorem g_784 : Cond.code yX12_factor cX12_factor 5 none ∈ f_GW := f_in5 (List.mem_of_getElem? (i := 166) rfl) rfl
theorem g_785 : Cond.methodLink RX12 106 yX12_emits ∈ f_GW := f_in5 (List.mem_of_getElem? (i := 167) rfl) rfl
theorem g_786 : Cond.instanceMethod yX12_emits ∈ f_GW := f_in5 (List.mem_of_getElem? (i := 169) rfl) rfl
theorem g_787 : Cond.code yX12_emits cX12_emits 2 none ∈ f_GW := f_in5 (List.mem_of_getElem? (i := 170) rfl) rfl
theorem g_788 : Cond.methodLink RX12 114 yX12_among ∈ f_GW := f_in5 (List.mem_of_getElem? (i := 172) rfl) rfl
theorem g_789 : Cond.instanceMethod yX12_among ∈ f_GW := f_in5 (List.mem_of_getElem? (i := 174) rfl) rfl
theorem g_790 : Cond.code yX12_among cX12_among 3 (some .int) ∈ f_GW := f_in5 (List.mem_of_getElem? (i := 175) rfl) rfl
theorem g_791 : Cond.methodLink "BrokenThreeLaw" 27 yX12_breaker ∈ f_GW := f_in5 (List.mem_of_getElem? (i := 179) rfl) rfl
theorem g_792 : Cond.instanceMethod yX12_breaker ∈ f_GW := f_in5 (List.mem_of_getElem? (i := 180) rfl) rfl
theorem g_793 : Cond.selects RX12 yX12_breaker yX12_breaker ∈ f_GW := f_in5 (List.mem_of_getElem? (i := 181) rfl) rfl
theorem g_794 : Cond.code yX12_breaker cX12_breaker 5 (some .int) ∈ f_GW := f_in5 (List.mem_of_getElem? (i := 182) rfl) rfl
theorem g_795 : Cond.methodLink "BrokenThreeLaw" 31 yX12_of ∈ f_GW := f_in5 (List.mem_of_getElem? (i := 183) rfl) rfl
theorem g_796 : Cond.instanceMethod yX12_of ∈ f_GW := f_in5 (List.mem_of_getElem? (i := 184) rfl) rfl
theorem g_797 : Cond.selects RX12 yX12_of yX12_of ∈ f_GW := f_in5 (List.mem_of_getElem? (i := 185) rfl) rfl
theorem g_798 : Cond.code yX12_of cX12_of 5 (some .int) ∈ f_GW := f_in5 (List.mem_of_getElem? (i := 186) rfl) rfl
theorem g_799 : Cond.methodLink RX12 194 yX12_isBreaker ∈ f_GW := f_in5 (List.mem_of_getElem? (i := 187) rfl) rfl
theorem g_800 : Cond.instanceMethod yX12_isBreaker ∈ f_GW := f_in5 (List.mem_of_getElem? (i := 189) rfl) rfl
theorem g_801 : Cond.code yX12_isBreaker cX12_isBreaker 2 (some .boolean) ∈ f_GW := f_in5 (List.mem_of_getElem? (i := 190) rfl) rfl
theorem g_802 : Cond.methodLink RX12 198 yX12_mayOf ∈ f_GW := f_in5 (List.mem_of_getElem? (i := 191) rfl) rfl
theorem g_803 : Cond.instanceMethod yX12_mayOf ∈ f_GW := f_in5 (List.mem_of_getElem? (i := 193) rfl) rfl
theorem g_804 : Cond.code yX12_mayOf cX12_mayOf 3 (some .int) ∈ f_GW := f_in5 (List.mem_of_getElem? (i := 194) rfl) rfl
theorem g_805 : Cond.methodLink RX12 175 yX12_looksForFree ∈ f_GW := f_in5 (List.mem_of_getElem? (i := 195) rfl) rfl
theorem g_806 : Cond.instanceMethod yX12_looksForFree ∈ f_GW := f_in5 (List.mem_of_getElem? (i := 197) rfl) rfl
theorem g_807 : Cond.code yX12_looksForFree cX12_looksForFree 5 none ∈ f_GW := f_in5 (List.mem_of_getElem? (i := 198) rfl) rfl
theorem g_808 : Cond.methodLink RX12 164 yX12_looksForPieces ∈ f_GW := f_in5 (List.mem_of_getElem? (i := 199) rfl) rfl
theorem g_809 : Cond.instanceMethod yX12_looksForPieces ∈ f_GW := f_in5 (List.mem_of_getElem? (i := 201) rfl) rfl
theorem g_810 : Cond.code yX12_looksForPieces cX12_looksForPieces 5 none ∈ f_GW := f_in5 (List.mem_of_getElem? (i := 202) rfl) rfl
theorem g_811 : Cond.methodLink RX12 161 yX12_longNow ∈ f_GW := f_in5 (List.mem_of_getElem? (i := 203) rfl) rfl
theorem g_812 : Cond.instanceMethod yX12_longNow ∈ f_GW := f_in5 (List.mem_of_getElem? (i := 205) rfl) rfl
theorem g_813 : Cond.code yX12_longNow cX12_longNow 1 (some .int) ∈ f_GW := f_in5 (List.mem_of_getElem? (i := 206) rfl) rfl
theorem g_814 : Cond.methodLink RX12 148 yX12_within ∈ f_GW := f_in5 (List.mem_of_getElem? (i := 207) rfl) rfl
theorem g_815 : Cond.static yX12_within ∈ f_GW := f_in5 (List.mem_of_getElem? (i := 208) rfl) rfl
theorem g_816 : Cond.code yX12_within cX12_within 3 (some .int) ∈ f_GW := f_in5 (List.mem_of_getElem? (i := 209) rfl) rfl
theorem g_817 : Cond.methodLink RX12 167 yX12_looks ∈ f_GW := f_in5 (List.mem_of_getElem? (i := 210) rfl) rfl
theorem g_818 : Cond.instanceMethod yX12_looks ∈ f_GW := f_in5 (List.mem_of_getElem? (i := 212) rfl) rfl
theorem g_819 : Cond.code yX12_looks cX12_looks 14 none ∈ f_GW := f_in5 (List.mem_of_getElem? (i := 213) rfl) rfl
theorem g_820 : Cond.methodLink RX12 179 yX12_freeOfLongest ∈ f_GW := f_in5 (List.mem_of_getElem? (i := 214) rfl) rfl
theorem g_821 : Cond.instanceMethod yX12_freeOfLongest ∈ f_GW := f_in5 (List.mem_of_getElem? (i := 216) rfl) rfl
theorem g_822 : Cond.code yX12_freeOfLongest cX12_freeOfLongest 3 (some .int) ∈ f_GW := f_in5 (List.mem_of_getElem? (i := 217) rfl) rfl
theorem g_823 : Cond.methodLink RX12 171 yX12_longOf ∈ f_GW := f_in5 (List.mem_of_getElem? (i := 218) rfl) rfl
theorem g_824 : Cond.instanceMethod yX12_longOf ∈ f_GW := f_in5 (List.mem_of_getElem? (i := 220) rfl) rfl
theorem g_825 : Cond.code yX12_longOf cX12_longOf 2 (some .int) ∈ f_GW := f_in5 (List.mem_of_getElem? (i := 221) rfl) rfl
theorem g_826 : Cond.methodLink RX12 182 yX12_freeOfShortest ∈ f_GW := f_in5 (List.mem_of_getElem? (i := 222) rfl) rfl
theorem g_827 : Cond.instanceMethod yX12_freeOfShortest ∈ f_GW := f_in5 (List.mem_of_getElem? (i := 224) rfl) rfl
theorem g_828 : Cond.code yX12_freeOfShortest cX12_freeOfShortest 4 (some .int) ∈ f_GW := f_in5 (List.mem_of_getElem? (i := 225) rfl) rfl
theorem g_829 : Cond.methodLink RX12 185 yX12_freeOfNumber ∈ f_GW := f_in5 (List.mem_of_getElem? (i := 226) rfl) rfl
theorem g_830 : Cond.instanceMethod yX12_freeOfNumber ∈ f_GW := f_in5 (List.mem_of_getElem? (i := 228) rfl) rfl
theorem g_831 : Cond.code yX12_freeOfNumber cX12_freeOfNumber 5 (some .int) ∈ f_GW := f_in5 (List.mem_of_getElem? (i := 229) rfl) rfl
theorem g_832 : Cond.methodLink RX12 188 yX12_inmost ∈ f_GW := f_in5 (List.mem_of_getElem? (i := 230) rfl) rfl
theorem g_833 : Cond.instanceMethod yX12_inmost ∈ f_GW := f_in5 (List.mem_of_getElem? (i := 232) rfl) rfl
theorem g_834 : Cond.code yX12_inmost cX12_inmost 7 (some .int) ∈ f_GW := f_in5 (List.mem_of_getElem? (i := 233) rfl) rfl
theorem g_835 : Cond.methodLink RX12 191 yX12_allFree ∈ f_GW := f_in5 (List.mem_of_getElem? (i := 234) rfl) rfl
theorem g_836 : Cond.instanceMethod yX12_allFree ∈ f_GW := f_in5 (List.mem_of_getElem? (i := 236) rfl) rfl
theorem g_837 : Cond.code yX12_allFree cX12_allFree 3 (some .int) ∈ f_GW := f_in5 (List.mem_of_getElem? (i := 237) rfl) rfl
theorem g_838 : Cond.methodLink RX12 202 yX12_count1 ∈ f_GW := f_in5 (List.mem_of_getElem? (i := 238) rfl) rfl
theorem g_839 : Cond.static yX12_count1 ∈ f_GW := f_in5 (List.mem_of_getElem? (i := 239) rfl) rfl
theorem g_840 : Cond.code yX12_count1 cX12_count1 3 (some .int) ∈ f_GW := f_in6 (List.mem_of_getElem? (i := 0) rfl) rfl
theorem g_841 : Cond.methodLink RX12 205 yX12_place ∈ f_GW := f_in6 (List.mem_of_getElem? (i := 1) rfl) rfl
theorem g_842 : Cond.static yX12_place ∈ f_GW := f_in6 (List.mem_of_getElem? (i := 2) rfl) rfl
theorem g_843 : Cond.code yX12_place cX12_place 4 (some .int) ∈ f_GW := f_in6 (List.mem_of_getElem? (i := 3) rfl) rfl
theorem g_844 : Cond.methodLink "BrokenThreeLaw" 36 yX12_row ∈ f_GW := f_in6 (List.mem_of_getElem? (i := 4) rfl) rfl
theorem g_845 : Cond.instanceMethod yX12_row ∈ f_GW := f_in6 (List.mem_of_getElem? (i := 5) rfl) rfl
theorem g_846 : Cond.selects RX12 yX12_row yX12_row ∈ f_GW := f_in6 (List.mem_of_getElem? (i := 6) rfl) rfl
theorem g_847 : Cond.code yX12_row cX12_row 5 (some .int) ∈ f_GW := f_in6 (List.mem_of_getElem? (i := 7) rfl) rfl
theorem g_848 : Cond.methodLink "BrokenThreeLaw" 40 yX12_told ∈ f_GW := f_in6 (List.mem_of_getElem? (i := 8) rfl) rfl
theorem g_849 : Cond.instanceMethod yX12_told ∈ f_GW := f_in6 (List.mem_of_getElem? (i := 9) rfl) rfl
theorem g_850 : Cond.selects RX12 yX12_told yX12_told ∈ f_GW := f_in6 (List.mem_of_getElem? (i := 10) rfl) rfl
theorem g_851 : Cond.code yX12_told cX12_told 2 (some .int) ∈ f_GW := f_in6 (List.mem_of_getElem? (i := 11) rfl) rfl
theorem g_852 : Cond.methodLink RX12 208 yX12_cutsToMake ∈ f_GW := f_in6 (List.mem_of_getElem? (i := 12) rfl) rfl
theorem g_853 : Cond.instanceMethod yX12_cutsToMake ∈ f_GW := f_in6 (List.mem_of_getElem? (i := 14) rfl) rfl
theorem g_854 : Cond.code yX12_cutsToMake cX12_cutsToMake 1 (some .int) ∈ f_GW := f_in6 (List.mem_of_getElem? (i := 15) rfl) rfl
theorem g_855 : Cond.methodLink "BrokenThreeLaw" 44 yX12_piece ∈ f_GW := f_in6 (List.mem_of_getElem? (i := 16) rfl) rfl
theorem g_856 : Cond.instanceMethod yX12_piece ∈ f_GW := f_in6 (List.mem_of_getElem? (i := 17) rfl) rfl
theorem g_857 : Cond.selects RX12 yX12_piece yX12_piece ∈ f_GW := f_in6 (List.mem_of_getElem? (i := 18) rfl) rfl
theorem g_858 : Cond.code yX12_piece cX12_piece 2 (some .int) ∈ f_GW := f_in6 (List.mem_of_getElem? (i := 19) rfl) rfl
theorem g_859 : Cond.methodLink "BrokenThreeLaw" 48 yX12_breaks ∈ f_GW := f_in6 (List.mem_of_getElem? (i := 20) rfl) rfl
theorem g_860 : Cond.instanceMethod yX12_breaks ∈ f_GW := f_in6 (List.mem_of_getElem? (i := 21) rfl) rfl
theorem g_861 : Cond.selects RX12 yX12_breaks yX12_breaks ∈ f_GW := f_in6 (List.mem_of_getElem? (i := 22) rfl) rfl
theorem g_862 : Cond.code yX12_breaks cX12_breaks 5 (some .int) ∈ f_GW := f_in6 (List.mem_of_getElem? (i := 23) rfl) rfl
theorem g_863 : Cond.methodLink "BrokenThreeLaw" 52 yX12_whole ∈ f_GW := f_in6 (List.mem_of_getElem? (i := 24) rfl) rfl
theorem g_864 : Cond.instanceMethod yX12_whole ∈ f_GW := f_in6 (List.mem_of_getElem? (i := 25) rfl) rfl
theorem g_865 : Cond.selects RX12 yX12_whole yX12_whole ∈ f_GW := f_in6 (List.mem_of_getElem? (i := 26) rfl) rfl
theorem g_866 : Cond.code yX12_whole cX12_whole 2 (some .int) ∈ f_GW := f_in6 (List.mem_of_getElem? (i := 27) rfl) rfl
theorem g_867 : Cond.methodLink "BrokenThreeLaw" 56 yX12_shape ∈ f_GW := f_in6 (List.mem_of_getElem? (i := 28) rfl) rfl
theorem g_868 : Cond.instanceMethod yX12_shape ∈ f_GW := f_in6 (List.mem_of_getElem? (i := 29) rfl) rfl
theorem g_869 : Cond.selects RX12 yX12_shape yX12_shape ∈ f_GW := f_in6 (List.mem_of_getElem? (i := 30) rfl) rfl
theorem g_870 : Cond.code yX12_shape cX12_shape 2 (some .int) ∈ f_GW := f_in6 (List.mem_of_getElem? (i := 31) rfl) rfl
theorem g_871 : Cond.methodLink RX12 222 yX12_sorts ∈ f_GW := f_in6 (List.mem_of_getElem? (i := 32) rfl) rfl
theorem g_872 : Cond.instanceMethod yX12_sorts ∈ f_GW := f_in6 (List.mem_of_getElem? (i := 34) rfl) rfl
theorem g_873 : Cond.code yX12_sorts cX12_sorts 4 none ∈ f_GW := f_in6 (List.mem_of_getElem? (i := 35) rfl) rfl
theorem g_874 : Cond.methodLink RX12 225 yX12_isSuch ∈ f_GW := f_in6 (List.mem_of_getElem? (i := 36) rfl) rfl
theorem g_875 : Cond.instanceMethod yX12_isSuch ∈ f_GW := f_in6 (List.mem_of_getElem? (i := 38) rfl) rfl
theorem g_876 : Cond.code yX12_isSuch cX12_isSuch 3 (some .boolean) ∈ f_GW := f_in6 (List.mem_of_getElem? (i := 39) rfl) rfl
theorem g_877 : Cond.methodLink RX12 211 yX12_doClose ∈ f_GW := f_in6 (List.mem_of_getElem? (i := 40) rfl) rfl
theorem g_878 : Cond.instanceMethod yX12_doClose ∈ f_GW := f_in6 (List.mem_of_getElem? (i := 42) rfl) rfl
theorem g_879 : Cond.code yX12_doClose cX12_doClose 1 (some .boolean) ∈ f_GW := f_in6 (List.mem_of_getElem? (i := 43) rfl) rfl
theorem g_880 : Cond.methodLink RX12 215 yX12_squares ∈ f_GW := f_in6 (List.mem_of_getElem? (i := 44) rfl) rfl
theorem g_881 : Cond.instanceMethod yX12_squares ∈ f_GW := f_in6 (List.mem_of_getElem? (i := 46) rfl) rfl
theorem g_882 : Cond.code yX12_squares cX12_squares 1 (some .int) ∈ f_GW := f_in6 (List.mem_of_getElem? (i := 47) rfl) rfl
theorem g_883 : Cond.methodLink RX12 218 yX12_hasOfAll ∈ f_GW := f_in6 (List.mem_of_getElem? (i := 48) rfl) rfl
theorem g_884 : Cond.instanceMethod yX12_hasOfAll ∈ f_GW := f_in6 (List.mem_of_getElem? (i := 50) rfl) rfl
theorem g_885 : Cond.code yX12_hasOfAll cX12_hasOfAll 5 (some .boolean) ∈ f_GW := f_in6 (List.mem_of_getElem? (i := 51) rfl) rfl
theorem g_886 : Cond.methodLink "BrokenThreeLaw" 61 yX12_likely ∈ f_GW := f_in6 (List.mem_of_getElem? (i := 52) rfl) rfl
theorem g_887 : Cond.instanceMethod yX12_likely ∈ f_GW := f_in6 (List.mem_of_getElem? (i := 53) rfl) rfl
theorem g_888 : Cond.selects RX12 yX12_likely yX12_likely ∈ f_GW := f_in6 (List.mem_of_getElem? (i := 54) rfl) rfl
theorem g_889 : Cond.code yX12_likely cX12_likely 5 (some .long) ∈ f_GW := f_in6 (List.mem_of_getElem? (i := 55) rfl) rfl
theorem g_890 : Cond.constantLong RX12 255 (-9223372036854775808) ∈ f_GW := f_in6 (List.mem_of_getElem? (i := 56) rfl) rfl
theorem g_891 : Cond.methodLink RX12 257 yX12_sumBy ∈ f_GW := f_in6 (List.mem_of_getElem? (i := 57) rfl) rfl
theorem g_892 : Cond.instanceMethod yX12_sumBy ∈ f_GW := f_in6 (List.mem_of_getElem? (i := 59) rfl) rfl
theorem g_893 : Cond.code yX12_sumBy cX12_sumBy 4 (some .long) ∈ f_GW := f_in6 (List.mem_of_getElem? (i := 60) rfl) rfl
theorem g_894 : Cond.methodLink RX12 251 yX12_breaksOn ∈ f_GW := f_in6 (List.mem_of_getElem? (i := 61) rfl) rfl
theorem g_895 : Cond.instanceMethod yX12_breaksOn ∈ f_GW := f_in6 (List.mem_of_getElem? (i := 63) rfl) rfl
theorem g_896 : Cond.code yX12_breaksOn cX12_breaksOn 10 none ∈ f_GW := f_in6 (List.mem_of_getElem? (i := 64) rfl) rfl
theorem g_897 : Cond.methodLink RX12 247 yX12_ends ∈ f_GW := f_in6 (List.mem_of_getElem? (i := 65) rfl) rfl
theorem g_898 : Cond.instanceMethod yX12_ends ∈ f_GW := f_in6 (List.mem_of_getElem? (i := 67) rfl) rfl
theorem g_899 : Cond.code yX12_ends cX12_ends 4 none ∈ f_GW := f_in6 (List.mem_of_getElem? (i := 68) rfl) rfl
theorem g_900 : Cond.methodLink RX12 233 yX12_partsOf ∈ f_GW := f_in6 (List.mem_of_getElem? (i := 69) rfl) rfl
theorem g_901 : Cond.static yX12_partsOf ∈ f_GW := f_in6 (List.mem_of_getElem? (i := 70) rfl) rfl
theorem g_902 : Cond.code yX12_partsOf cX12_partsOf 1 (some .long) ∈ f_GW := f_in6 (List.mem_of_getElem? (i := 71) rfl) rfl
theorem g_903 : Cond.constantLong RX12 229 (720720) ∈ f_GW := f_in6 (List.mem_of_getElem? (i := 72) rfl) rfl
theorem g_904 : Cond.constantLong RX12 231 (360360) ∈ f_GW := f_in6 (List.mem_of_getElem? (i := 73) rfl) rfl
theorem g_905 : Cond.methodLink RX12 261 yX12_all ∈ f_GW := f_in6 (List.mem_of_getElem? (i := 74) rfl) rfl
theorem g_906 : Cond.instanceMethod yX12_all ∈ f_GW := f_in6 (List.mem_of_getElem? (i := 76) rfl) rfl
theorem g_907 : Cond.code yX12_all cX12_all 4 (some .long) ∈ f_GW := f_in6 (List.mem_of_getElem? (i := 77) rfl) rfl
theorem g_908 : Cond.methodLink RX12 265 yX12_lowest ∈ f_GW := f_in6 (List.mem_of_getElem? (i := 78) rfl) rfl
theorem g_909 : Cond.static yX12_lowest ∈ f_GW := f_in6 (List.mem_of_getElem? (i := 79) rfl) rfl
theorem g_910 : Cond.code yX12_lowest cX12_lowest 11 (some .long) ∈ f_GW := f_in6 (List.mem_of_getElem? (i := 80) rfl) rfl
theorem g_911 : Cond.methodLink "BrokenThreeLaw" 66 yX12_mean ∈ f_GW := f_in6 (List.mem_of_getElem? (i := 81) rfl) rfl
theorem g_912 : Cond.instanceMethod yX12_mean ∈ f_GW := f_in6 (List.mem_of_getElem? (i := 82) rfl) rfl
theorem g_913 : Cond.selects RX12 yX12_mean yX12_mean ∈ f_GW := f_in6 (List.mem_of_getElem? (i := 83) rfl) rfl
theorem g_914 : Cond.code yX12_mean cX12_mean 4 (some .long) ∈ f_GW := f_in6 (List.mem_of_getElem? (i := 84) rfl) rfl
theorem g_915 : Cond.methodLink "BrokenThreeLaw" 71 yX12_costs ∈ f_GW := f_in6 (List.mem_of_getElem? (i := 85) rfl) rfl
theorem g_916 : Cond.instanceMethod yX12_costs ∈ f_GW := f_in6 (List.mem_of_getElem? (i := 86) rfl) rfl
theorem g_917 : Cond.selects RX12 yX12_costs yX12_costs ∈ f_GW := f_in6 (List.mem_of_getElem? (i := 87) rfl) rfl
theorem g_918 : Cond.code yX12_costs cX12_costs 6 (some .long) ∈ f_GW := f_in6 (List.mem_of_getElem? (i := 88) rfl) rfl
theorem g_919 : Cond.methodLink RX12 272 yX12_paysOn ∈ f_GW := f_in6 (List.mem_of_getElem? (i := 89) rfl) rfl
theorem g_920 : Cond.instanceMethod yX12_paysOn ∈ f_GW := f_in6 (List.mem_of_getElem? (i := 91) rfl) rfl
theorem g_921 : Cond.code yX12_paysOn cX12_paysOn 13 none ∈ f_GW := f_in6 (List.mem_of_getElem? (i := 92) rfl) rfl
theorem g_922 : Cond.methodLink "BrokenThreeLaw" 75 yX12_until ∈ f_GW := f_in6 (List.mem_of_getElem? (i := 93) rfl) rfl
theorem g_923 : Cond.instanceMethod yX12_until ∈ f_GW := f_in6 (List.mem_of_getElem? (i := 94) rfl) rfl
theorem g_924 : Cond.selects RX12 yX12_until yX12_until ∈ f_GW := f_in6 (List.mem_of_getElem? (i := 95) rfl) rfl
theorem g_925 : Cond.code yX12_until cX12_until 12 (some .long) ∈ f_GW := f_in6 (List.mem_of_getElem? (i := 96) rfl) rfl
theorem g_926 : Cond.constantLong RX12 275 (2) ∈ f_GW := f_in6 (List.mem_of_getElem? (i := 97) rfl) rfl
theorem g_927 : Cond.methodLink "BrokenThreeLaw" 79 yX12_hidden ∈ f_GW := f_in6 (List.mem_of_getElem? (i := 98) rfl) rfl
theorem g_928 : Cond.instanceMethod yX12_hidden ∈ f_GW := f_in6 (List.mem_of_getElem? (i := 99) rfl) rfl
theorem g_929 : Cond.selects RX12 yX12_hidden yX12_hidden ∈ f_GW := f_in6 (List.mem_of_getElem? (i := 100) rfl) rfl
theorem g_930 : Cond.code yX12_hidden cX12_hidden 8 (some .long) ∈ f_GW := f_in6 (List.mem_of_getElem? (i := 101) rfl) rfl
theorem g_931 : Cond.methodLink RX12 280 yX12_lays ∈ f_GW := f_in6 (List.mem_of_getElem? (i := 102) rfl) rfl
theorem g_932 : Cond.instanceMethod yX12_lays ∈ f_GW := f_in6 (List.mem_of_getElem? (i := 104) rfl) rfl
theorem g_933 : Cond.code yX12_lays cX12_lays 6 none ∈ f_GW := f_in6 (List.mem_of_getElem? (i := 105) rfl) rfl
theorem g_934 : Cond.methodLink RX12 277 yX12_arc ∈ f_GW := f_in6 (List.mem_of_getElem? (i := 106) rfl) rfl
theorem g_935 : Cond.static yX12_arc ∈ f_GW := f_in6 (List.mem_of_getElem? (i := 107) rfl) rfl
theorem g_936 : Cond.code yX12_arc cX12_arc 5 (some .int) ∈ f_GW := f_in6 (List.mem_of_getElem? (i := 108) rfl) rfl
theorem g_937 : Cond.methodLink "BrokenThreeLaw" 83 yX12_box ∈ f_GW := f_in6 (List.mem_of_getElem? (i := 109) rfl) rfl
theorem g_938 : Cond.instanceMethod yX12_box ∈ f_GW := f_in6 (List.mem_of_getElem? (i := 110) rfl) rfl
theorem g_939 : Cond.selects RX12 yX12_box yX12_box ∈ f_GW := f_in6 (List.mem_of_getElem? (i := 111) rfl) rfl
theorem g_940 : Cond.code yX12_box cX12_box 2 (some .int) ∈ f_GW := f_in6 (List.mem_of_getElem? (i := 112) rfl) rfl
theorem g_941 : Cond.methodLink "BrokenThreeLaw" 87 yX12_triangles ∈ f_GW := f_in6 (List.mem_of_getElem? (i := 113) rfl) rfl
theorem g_942 : Cond.instanceMethod yX12_triangles ∈ f_GW := f_in6 (List.mem_of_getElem? (i := 114) rfl) rfl
theorem g_943 : Cond.selects RX12 yX12_triangles yX12_triangles ∈ f_GW := f_in6 (List.mem_of_getElem? (i := 115) rfl) rfl
theorem g_944 : Cond.code yX12_triangles cX12_triangles 1 (some .int) ∈ f_GW := f_in6 (List.mem_of_getElem? (i := 116) rfl) rfl
theorem g_945 : Cond.methodLink RX12 286 yX12_closing ∈ f_GW := f_in6 (List.mem_of_getElem? (i := 117) rfl) rfl
theorem g_946 : Cond.instanceMethod yX12_closing ∈ f_GW := f_in6 (List.mem_of_getElem? (i := 119) rfl) rfl
theorem g_947 : Cond.code yX12_closing cX12_closing 9 (some .int) ∈ f_GW := f_in6 (List.mem_of_getElem? (i := 120) rfl) rfl
theorem g_948 : Cond.methodLink RX12 283 yX12_closes ∈ f_GW := f_in6 (List.mem_of_getElem? (i := 121) rfl) rfl
theorem g_949 : Cond.static yX12_closes ∈ f_GW := f_in6 (List.mem_of_getElem? (i := 122) rfl) rfl
theorem g_950 : Cond.code yX12_closes cX12_closes 3 (some .boolean) ∈ f_GW := f_in6 (List.mem_of_getElem? (i := 123) rfl) rfl
theorem g_951 : Cond.methodLink "BrokenThreeLaw" 92 yX12_drawn ∈ f_GW := f_in6 (List.mem_of_getElem? (i := 124) rfl) rfl
theorem g_952 : Cond.instanceMethod yX12_drawn ∈ f_GW := f_in6 (List.mem_of_getElem? (i := 125) rfl) rfl
theorem g_953 : Cond.selects RX12 yX12_drawn yX12_drawn ∈ f_GW := f_in6 (List.mem_of_getElem? (i := 126) rfl) rfl
theorem g_954 : Cond.code yX12_drawn cX12_drawn 4 (some .long) ∈ f_GW := f_in6 (List.mem_of_getElem? (i := 127) rfl) rfl
theorem g_955 : Cond.constantLong RX12 289 (3) ∈ f_GW := f_in6 (List.mem_of_getElem? (i := 128) rfl) rfl
theorem g_956 : Cond.methodLink RX12 291 yX12_triangles ∈ f_GW := f_in6 (List.mem_of_getElem? (i := 129) rfl) rfl
theorem g_957 : Cond.constantLong RX12 294 (6) ∈ f_GW := f_in6 (List.mem_of_getElem? (i := 130) rfl) rfl
theorem g_958 : Cond.methodLink "BrokenThreeLaw" 96 yX12_none ∈ f_GW := f_in6 (List.mem_of_getElem? (i := 131) rfl) rfl
theorem g_959 : Cond.instanceMethod yX12_none ∈ f_GW := f_in6 (List.mem_of_getElem? (i := 132) rfl) rfl
theorem g_960 : Cond.selects RX12 yX12_none yX12_none ∈ f_GW := f_in6 (List.mem_of_getElem? (i := 133) rfl) rfl
theorem g_961 : Cond.code yX12_none cX12_none 2 (some .int) ∈ f_GW := f_in6 (List.mem_of_getElem? (i := 134) rfl) rfl
theorem g_962 : Cond.methodLink RX12 302 yX12_freesFrom ∈ f_GW := f_in6 (List.mem_of_getElem? (i := 135) rfl) rfl
theorem g_963 : Cond.instanceMethod yX12_freesFrom ∈ f_GW := f_in6 (List.mem_of_getElem? (i := 137) rfl) rfl
theorem g_964 : Cond.code yX12_freesFrom cX12_freesFrom 4 none ∈ f_GW := f_in6 (List.mem_of_getElem? (i := 138) rfl) rfl
theorem g_965 : Cond.methodLink RX12 305 yX12_isFree ∈ f_GW := f_in6 (List.mem_of_getElem? (i := 139) rfl) rfl
theorem g_966 : Cond.instanceMethod yX12_isFree ∈ f_GW := f_in6 (List.mem_of_getElem? (i := 141) rfl) rfl
theorem g_967 : Cond.code yX12_isFree cX12_isFree 5 (some .boolean) ∈ f_GW := f_in6 (List.mem_of_getElem? (i := 142) rfl) rfl
theorem g_968 : Cond.methodLink "BrokenThreeLaw" 100 yX12_stair ∈ f_GW := f_in6 (List.mem_of_getElem? (i := 143) rfl) rfl
theorem g_969 : Cond.instanceMethod yX12_stair ∈ f_GW := f_in6 (List.mem_of_getElem? (i := 144) rfl) rfl
theorem g_970 : Cond.selects RX12 yX12_stair yX12_stair ∈ f_GW := f_in6 (List.mem_of_getElem? (i := 145) rfl) rfl
theorem g_971 : Cond.code yX12_stair cX12_stair 6 (some .int) ∈ f_GW := f_in6 (List.mem_of_getElem? (i := 146) rfl) rfl
theorem g_972 : Cond.methodLink "BrokenThreeLaw" 104 yX12_sawn ∈ f_GW := f_in6 (List.mem_of_getElem? (i := 147) rfl) rfl
theorem g_973 : Cond.instanceMethod yX12_sawn ∈ f_GW := f_in6 (List.mem_of_getElem? (i := 148) rfl) rfl
theorem g_974 : Cond.selects RX12 yX12_sawn yX12_sawn ∈ f_GW := f_in6 (List.mem_of_getElem? (i := 149) rfl) rfl
theorem g_975 : Cond.code yX12_sawn cX12_sawn 3 (some .int) ∈ f_GW := f_in6 (List.mem_of_getElem? (i := 150) rfl) rfl
theorem g_976 : Cond.methodLink RX12 317 yX12_sawsFrom ∈ f_GW := f_in6 (List.mem_of_getElem? (i := 151) rfl) rfl
theorem g_977 : Cond.instanceMethod yX12_sawsFrom ∈ f_GW := f_in6 (List.mem_of_getElem? (i := 153) rfl) rfl
theorem g_978 : Cond.code yX12_sawsFrom cX12_sawsFrom 6 none ∈ f_GW := f_in6 (List.mem_of_getElem? (i := 154) rfl) rfl
theorem g_979 : Cond.methodLink RX12 314 yX12_triesSaw ∈ f_GW := f_in6 (List.mem_of_getElem? (i := 155) rfl) rfl
theorem g_980 : Cond.instanceMethod yX12_triesSaw ∈ f_GW := f_in6 (List.mem_of_getElem? (i := 157) rfl) rfl
theorem g_981 : Cond.code yX12_triesSaw cX12_triesSaw 4 none ∈ f_GW := f_in6 (List.mem_of_getElem? (i := 158) rfl) rfl
theorem g_982 : Cond.methodLink RX12 308 yX12_sawTriangles ∈ f_GW := f_in6 (List.mem_of_getElem? (i := 159) rfl) rfl
theorem g_983 : Cond.instanceMethod yX12_sawTriangles ∈ f_GW := f_in6 (List.mem_of_getElem? (i := 161) rfl) rfl
theorem g_984 : Cond.code yX12_sawTriangles cX12_sawTriangles 6 (some .int) ∈ f_GW := f_in6 (List.mem_of_getElem? (i := 162) rfl) rfl
theorem g_985 : Cond.methodLink "BrokenThreeLaw" 108 yX12_see ∈ f_GW := f_in6 (List.mem_of_getElem? (i := 163) rfl) rfl
theorem g_986 : Cond.instanceMethod yX12_see ∈ f_GW := f_in6 (List.mem_of_getElem? (i := 164) rfl) rfl
theorem g_987 : Cond.selects RX12 yX12_see yX12_see ∈ f_GW := f_in6 (List.mem_of_getElem? (i := 165) rfl) rfl
theorem g_988 : Cond.code yX12_see cX12_see 2 (some .int) ∈ f_GW := f_in6 (List.mem_of_getElem? (i := 166) rfl) rfl
theorem g_989 : Cond.methodLink "BrokenThreeLaw" 112 yX12_orders ∈ f_GW := f_in6 (List.mem_of_getElem? (i := 167) rfl) rfl
theorem g_990 : Cond.instanceMethod yX12_orders ∈ f_GW := f_in6 (List.mem_of_getElem? (i := 168) rfl) rfl
theorem g_991 : Cond.selects RX12 yX12_orders yX12_orders ∈ f_GW := f_in6 (List.mem_of_getElem? (i := 169) rfl) rfl
theorem g_992 : Cond.code yX12_orders cX12_orders 2 (some .int) ∈ f_GW := f_in6 (List.mem_of_getElem? (i := 170) rfl) rfl
theorem g_993 : Cond.methodLink RX12 333 yX12_looksForOrders ∈ f_GW := f_in6 (List.mem_of_getElem? (i := 171) rfl) rfl
theorem g_994 : Cond.instanceMethod yX12_looksForOrders ∈ f_GW := f_in6 (List.mem_of_getElem? (i := 173) rfl) rfl
theorem g_995 : Cond.code yX12_looksForOrders cX12_looksForOrders 2 none ∈ f_GW := f_in6 (List.mem_of_getElem? (i := 174) rfl) rfl
theorem g_996 : Cond.methodLink RX12 330 yX12_canBe ∈ f_GW := f_in6 (List.mem_of_getElem? (i := 175) rfl) rfl
theorem g_997 : Cond.instanceMethod yX12_canBe ∈ f_GW := f_in6 (List.mem_of_getElem? (i := 177) rfl) rfl
theorem g_998 : Cond.code yX12_canBe cX12_canBe 3 (some .boolean) ∈ f_GW := f_in6 (List.mem_of_getElem? (i := 178) rfl) rfl
theorem g_999 : Cond.methodLink RX12 327 yX12_ordersOn ∈ f_GW := f_in6 (List.mem_of_getElem? (i := 179) rfl) rfl
theorem g_1000 : Cond.instanceMethod yX12_ordersOn ∈ f_GW := f_in6 (List.mem_of_getElem? (i := 181) rfl) rfl
theorem g_1001 : Cond.code yX12_ordersOn cX12_ordersOn 11 none ∈ f_GW := f_in6 (List.mem_of_getElem? (i := 182) rfl) rfl
theorem g_1002 : Cond.methodLink "BrokenThreeLaw" 116 yX12_chance ∈ f_GW := f_in6 (List.mem_of_getElem? (i := 183) rfl) rfl
theorem g_1003 : Cond.instanceMethod yX12_chance ∈ f_GW := f_in6 (List.mem_of_getElem? (i := 184) rfl) rfl
theorem g_1004 : Cond.selects RX12 yX12_chance yX12_chance ∈ f_GW := f_in6 (List.mem_of_getElem? (i := 185) rfl) rfl
theorem g_1005 : Cond.code yX12_chance cX12_chance 3 (some .long) ∈ f_GW := f_in6 (List.mem_of_getElem? (i := 186) rfl) rfl
theorem g_1006 : Cond.methodLink "BrokenThreeLaw" 120 yX12_lost ∈ f_GW := f_in6 (List.mem_of_getElem? (i := 187) rfl) rfl
theorem g_1007 : Cond.instanceMethod yX12_lost ∈ f_GW := f_in6 (List.mem_of_getElem? (i := 188) rfl) rfl
theorem g_1008 : Cond.selects RX12 yX12_lost yX12_lost ∈ f_GW := f_in6 (List.mem_of_getElem? (i := 189) rfl) rfl
theorem g_1009 : Cond.code yX12_lost cX12_lost 6 (some .int) ∈ f_GW := f_in6 (List.mem_of_getElem? (i := 190) rfl) rfl
theorem g_1010 : Cond.methodLink RX12 336 yX12_puts ∈ f_GW := f_in6 (List.mem_of_getElem? (i := 191) rfl) rfl
theorem g_1011 : Cond.instanceMethod yX12_puts ∈ f_GW := f_in6 (List.mem_of_getElem? (i := 193) rfl) rfl
theorem g_1012 : Cond.code yX12_puts cX12_puts 4 none ∈ f_GW := f_in6 (List.mem_of_getElem? (i := 194) rfl) rfl
theorem g_1013 : Cond.methodLink RX12 339 yX12_takes ∈ f_GW := f_in6 (List.mem_of_getElem? (i := 195) rfl) rfl
theorem g_1014 : Cond.instanceMethod yX12_takes ∈ f_GW := f_in6 (List.mem_of_getElem? (i := 197) rfl) rfl
theorem g_1015 : Cond.code yX12_takes cX12_takes 3 none ∈ f_GW := f_in6 (List.mem_of_getElem? (i := 198) rfl) rfl
theorem g_1016 : Cond.methodLink "BrokenThreeLaw" 124 yX12_who ∈ f_GW := f_in6 (List.mem_of_getElem? (i := 199) rfl) rfl
theorem g_1017 : Cond.instanceMethod yX12_who ∈ f_GW := f_in6 (List.mem_of_getElem? (i := 200) rfl) rfl
theorem g_1018 : Cond.selects RX12 yX12_who yX12_who ∈ f_GW := f_in6 (List.mem_of_getElem? (i := 201) rfl) rfl
theorem g_1019 : Cond.code yX12_who cX12_who 3 (some .int) ∈ f_GW := f_in6 (List.mem_of_getElem? (i := 202) rfl) rfl
theorem g_1020 : Cond.methodLink "BrokenThreeLaw" 128 yX12_likeliest ∈ f_GW := f_in6 (List.mem_of_getElem? (i := 203) rfl) rfl
theorem g_1021 : Cond.instanceMethod yX12_likeliest ∈ f_GW := f_in6 (List.mem_of_getElem? (i := 204) rfl) rfl
theorem g_1022 : Cond.selects RX12 yX12_likeliest yX12_likeliest ∈ f_GW := f_in6 (List.mem_of_getElem? (i := 205) rfl) rfl
theorem g_1023 : Cond.code yX12_likeliest cX12_likeliest 5 (some .int) ∈ f_GW := f_in6 (List.mem_of_getElem? (i := 206) rfl) rfl
theorem g_1024 : Cond.methodLink "BrokenThreeLaw" 133 yX12_book ∈ f_GW := f_in6 (List.mem_of_getElem? (i := 207) rfl) rfl
theorem g_1025 : Cond.instanceMethod yX12_book ∈ f_GW := f_in6 (List.mem_of_getElem? (i := 208) rfl) rfl
theorem g_1026 : Cond.selects RX12 yX12_book yX12_book ∈ f_GW := f_in6 (List.mem_of_getElem? (i := 209) rfl) rfl
theorem g_1027 : Cond.code yX12_book cX12_book 6 (some .int) ∈ f_GW := f_in6 (List.mem_of_getElem? (i := 210) rfl) rfl
theorem g_1028 : Cond.methodLink "BrokenThreeLaw" 137 yX12_looked ∈ f_GW := f_in6 (List.mem_of_getElem? (i := 211) rfl) rfl
theorem g_1029 : Cond.instanceMethod yX12_looked ∈ f_GW := f_in6 (List.mem_of_getElem? (i := 212) rfl) rfl
theorem g_1030 : Cond.selects RX12 yX12_looked yX12_looked ∈ f_GW := f_in6 (List.mem_of_getElem? (i := 213) rfl) rfl
theorem g_1031 : Cond.code yX12_looked cX12_looked 3 (some .int) ∈ f_GW := f_in6 (List.mem_of_getElem? (i := 214) rfl) rfl
theorem g_1032 : Cond.methodLink "BrokenThreeLaw" 141 yX12_act ∈ f_GW := f_in6 (List.mem_of_getElem? (i := 215) rfl) rfl
theorem g_1033 : Cond.instanceMethod yX12_act ∈ f_GW := f_in6 (List.mem_of_getElem? (i := 216) rfl) rfl
theorem g_1034 : Cond.selects RX12 yX12_act yX12_act ∈ f_GW := f_in6 (List.mem_of_getElem? (i := 217) rfl) rfl
theorem g_1035 : Cond.code yX12_act cX12_act 4 (some .int) ∈ f_GW := f_in6 (List.mem_of_getElem? (i := 218) rfl) rfl
theorem g_1036 : Cond.methodLink RX12 360 yX12_bendsActs ∈ f_GW := f_in6 (List.mem_of_getElem? (i := 219) rfl) rfl
theorem g_1037 : Cond.instanceMethod yX12_bendsActs ∈ f_GW := f_in6 (List.mem_of_getElem? (i := 221) rfl) rfl
theorem g_1038 : Cond.code yX12_bendsActs cX12_bendsActs 2 (some .int) ∈ f_GW := f_in6 (List.mem_of_getElem? (i := 222) rfl) rfl
theorem g_1039 : Cond.methodLink RX12 354 yX12_isUnder ∈ f_GW := f_in6 (List.mem_of_getElem? (i := 223) rfl) rfl
theorem g_1040 : Cond.static yX12_isUnder ∈ f_GW := f_in6 (List.mem_of_getElem? (i := 224) rfl) rfl
theorem g_1041 : Cond.code yX12_isUnder cX12_isUnder 2 (some .boolean) ∈ f_GW := f_in6 (List.mem_of_getElem? (i := 225) rfl) rfl
theorem g_1042 : Cond.methodLink RX12 345 yX12_ranBody ∈ f_GW := f_in6 (List.mem_of_getElem? (i := 226) rfl) rfl
theorem g_1043 : Cond.instanceMethod yX12_ranBody ∈ f_GW := f_in6 (List.mem_of_getElem? (i := 228) rfl) rfl
theorem g_1044 : Cond.code yX12_ranBody cX12_ranBody 2 none ∈ f_GW := f_in6 (List.mem_of_getElem? (i := 229) rfl) rfl
theorem g_1045 : Cond.methodLink RX12 357 yX12_plainBends ∈ f_GW := f_in6 (List.mem_of_getElem? (i := 230) rfl) rfl
theorem g_1046 : Cond.instanceMethod yX12_plainBends ∈ f_GW := f_in6 (List.mem_of_getElem? (i := 232) rfl) rfl
theorem g_1047 : Cond.code yX12_plainBends cX12_plainBends 2 (some .int) ∈ f_GW := f_in6 (List.mem_of_getElem? (i := 233) rfl) rfl
theorem g_1048 : Cond.methodLink RX12 369 yX12_breaksActs ∈ f_GW := f_in6 (List.mem_of_getElem? (i := 234) rfl) rfl
theorem g_1049 : Cond.instanceMethod yX12_breaksActs ∈ f_GW := f_in6 (List.mem_of_getElem? (i := 236) rfl) rfl
theorem g_1050 : Cond.code yX12_breaksActs cX12_breaksActs 2 (some .int) ∈ f_GW := f_in6 (List.mem_of_getElem? (i := 237) rfl) rfl
theorem g_1051 : Cond.methodLink RX12 366 yX12_plainBreaks ∈ f_GW := f_in6 (List.mem_of_getElem? (i := 238) rfl) rfl
theorem g_1052 : Cond.instanceMethod yX12_plainBreaks ∈ f_GW := f_in7 (List.mem_of_getElem? (i := 0) rfl) rfl
theorem g_1053 : Cond.code yX12_plainBreaks cX12_plainBreaks 2 (some .int) ∈ f_GW := f_in7 (List.mem_of_getElem? (i := 1) rfl) rfl
theorem g_1054 : Cond.methodLink RX12 375 yX12_tellsActs ∈ f_GW := f_in7 (List.mem_of_getElem? (i := 2) rfl) rfl
theorem g_1055 : Cond.instanceMethod yX12_tellsActs ∈ f_GW := f_in7 (List.mem_of_getElem? (i := 4) rfl) rfl
theorem g_1056 : Cond.code yX12_tellsActs cX12_tellsActs 3 (some .int) ∈ f_GW := f_in7 (List.mem_of_getElem? (i := 5) rfl) rfl
theorem g_1057 : Cond.methodLink RX12 372 yX12_plainTells ∈ f_GW := f_in7 (List.mem_of_getElem? (i := 6) rfl) rfl
theorem g_1058 : Cond.instanceMethod yX12_plainTells ∈ f_GW := f_in7 (List.mem_of_getElem? (i := 8) rfl) rfl
theorem g_1059 : Cond.code yX12_plainTells cX12_plainTells 2 (some .int) ∈ f_GW := f_in7 (List.mem_of_getElem? (i := 9) rfl) rfl
theorem g_1060 : Cond.methodLink "BrokenThreeLaw" 145 yX12_trace ∈ f_GW := f_in7 (List.mem_of_getElem? (i := 10) rfl) rfl
theorem g_1061 : Cond.instanceMethod yX12_trace ∈ f_GW := f_in7 (List.mem_of_getElem? (i := 11) rfl) rfl
theorem g_1062 : Cond.selects RX12 yX12_trace yX12_trace ∈ f_GW := f_in7 (List.mem_of_getElem? (i := 12) rfl) rfl
theorem g_1063 : Cond.code yX12_trace cX12_trace 2 (some .int) ∈ f_GW := f_in7 (List.mem_of_getElem? (i := 13) rfl) rfl
theorem g_1064 : Cond.methodLink "BrokenThreeLaw" 149 yX12_as ∈ f_GW := f_in7 (List.mem_of_getElem? (i := 14) rfl) rfl
theorem g_1065 : Cond.instanceMethod yX12_as ∈ f_GW := f_in7 (List.mem_of_getElem? (i := 15) rfl) rfl
theorem g_1066 : Cond.selects RX12 yX12_as yX12_as ∈ f_GW := f_in7 (List.mem_of_getElem? (i := 16) rfl) rfl
theorem g_1067 : Cond.code yX12_as cX12_as 3 (some .int) ∈ f_GW := f_in7 (List.mem_of_getElem? (i := 17) rfl) rfl
theorem g_1068 : Cond.methodLink "BrokenThreeLaw" 153 yX12_image ∈ f_GW := f_in7 (List.mem_of_getElem? (i := 18) rfl) rfl
theorem g_1069 : Cond.instanceMethod yX12_image ∈ f_GW := f_in7 (List.mem_of_getElem? (i := 19) rfl) rfl
theorem g_1070 : Cond.selects RX12 yX12_image yX12_image ∈ f_GW := f_in7 (List.mem_of_getElem? (i := 20) rfl) rfl
theorem g_1071 : Cond.code yX12_image cX12_image 2 (some .int) ∈ f_GW := f_in7 (List.mem_of_getElem? (i := 21) rfl) rfl
theorem g_1072 : Cond.methodLink "BrokenThreeLaw" 157 yX12_undo ∈ f_GW := f_in7 (List.mem_of_getElem? (i := 22) rfl) rfl
theorem g_1073 : Cond.instanceMethod yX12_undo ∈ f_GW := f_in7 (List.mem_of_getElem? (i := 23) rfl) rfl
theorem g_1074 : Cond.selects RX12 yX12_undo yX12_undo ∈ f_GW := f_in7 (List.mem_of_getElem? (i := 24) rfl) rfl
theorem g_1075 : Cond.code yX12_undo cX12_undo 2 (some .int) ∈ f_GW := f_in7 (List.mem_of_getElem? (i := 25) rfl) rfl
theorem g_1076 : Cond.methodLink "BrokenThreeLaw" 161 yX12_count ∈ f_GW := f_in7 (List.mem_of_getElem? (i := 26) rfl) rfl
theorem g_1077 : Cond.instanceMethod yX12_count ∈ f_GW := f_in7 (List.mem_of_getElem? (i := 27) rfl) rfl
theorem g_1078 : Cond.selects RX12 yX12_count yX12_count ∈ f_GW := f_in7 (List.mem_of_getElem? (i := 28) rfl) rfl
theorem g_1079 : Cond.code yX12_count cX12_count 2 (some .int) ∈ f_GW := f_in7 (List.mem_of_getElem? (i := 29) rfl) rfl
theorem g_1080 : Cond.fieldLink RJ0 9 "java/lang/String" "value" "[B" ∈ f_GW := f_in7 (List.mem_of_getElem? (i := 30) rfl) rfl
theorem g_1081 : Cond.fieldLink RJ0 15 "java/lang/String" "coder" "B" ∈ f_GW := f_in7 (List.mem_of_getElem? (i := 31) rfl) rfl
theorem g_1082 : Cond.selects RX2 yX2_addSet yX2_addSet ∈ f_GW := f_inP (List.mem_map.mpr ⟨_, List.mem_append_left _ (List.mem_of_getElem? (i := 0) rfl), rfl⟩) rfl
theorem g_1083 : Cond.selects RX5 yX5_faultInTape yX5_faultInTape ∈ f_GW := f_inP (List.mem_map.mpr ⟨_, List.mem_append_left _ (List.mem_of_getElem? (i := 1) rfl), rfl⟩) rfl
theorem g_1084 : Cond.selects RX10 yX10_clear yX10_clear ∈ f_GW := f_inP (List.mem_map.mpr ⟨_, List.mem_append_left _ (List.mem_of_getElem? (i := 2) rfl), rfl⟩) rfl
theorem g_1085 : Cond.selects RX5 yX5_readsHead yX5_readsHead ∈ f_GW := f_inP (List.mem_map.mpr ⟨_, List.mem_append_left _ (List.mem_of_getElem? (i := 3) rfl), rfl⟩) rfl
theorem g_1086 : Cond.selects RX5 yX5_sign yX5_sign ∈ f_GW := f_inP (List.mem_map.mpr ⟨_, List.mem_append_left _ (List.mem_of_getElem? (i := 4) rfl), rfl⟩) rfl
theorem g_1087 : Cond.selects RX5 yX5_takes yX5_takes ∈ f_GW := f_inP (List.mem_map.mpr ⟨_, List.mem_append_left _ (List.mem_of_getElem? (i := 5) rfl), rfl⟩) rfl
theorem g_1088 : Cond.selects RX5 yX5_number yX5_number ∈ f_GW := f_inP (List.mem_map.mpr ⟨_, List.mem_append_left _ (List.mem_of_getElem? (i := 6) rfl), rfl⟩) rfl
theorem g_1089 : Cond.selects RX5 yX5_hasRule yX5_hasRule ∈ f_GW := f_inP (List.mem_map.mpr ⟨_, List.mem_append_left _ (List.mem_of_getElem? (i := 7) rfl), rfl⟩) rfl
theorem g_1090 : Cond.selects RX5 yX5_readsEither yX5_readsEither ∈ f_GW := f_inP (List.mem_map.mpr ⟨_, List.mem_append_left _ (List.mem_of_getElem? (i := 8) rfl), rfl⟩) rfl
theorem g_1091 : Cond.selects RX5 yX5_readsBoth yX5_readsBoth ∈ f_GW := f_inP (List.mem_map.mpr ⟨_, List.mem_append_left _ (List.mem_of_getElem? (i := 9) rfl), rfl⟩) rfl
theorem g_1092 : Cond.selects RX5 yX5_readsFactor yX5_readsFactor ∈ f_GW := f_inP (List.mem_map.mpr ⟨_, List.mem_append_left _ (List.mem_of_getElem? (i := 10) rfl), rfl⟩) rfl
theorem g_1093 : Cond.selects RX5 yX5_readsTest yX5_readsTest ∈ f_GW := f_inP (List.mem_map.mpr ⟨_, List.mem_append_left _ (List.mem_of_getElem? (i := 11) rfl), rfl⟩) rfl
theorem g_1094 : Cond.selects RX10 yX10_addCode yX10_addCode ∈ f_GW := f_inP (List.mem_map.mpr ⟨_, List.mem_append_left _ (List.mem_of_getElem? (i := 12) rfl), rfl⟩) rfl
theorem g_1095 : Cond.selects RX5 yX5_keepClause yX5_keepClause ∈ f_GW := f_inP (List.mem_map.mpr ⟨_, List.mem_append_left _ (List.mem_of_getElem? (i := 13) rfl), rfl⟩) rfl
theorem g_1096 : Cond.selects RX10 yX10_addRule yX10_addRule ∈ f_GW := f_inP (List.mem_map.mpr ⟨_, List.mem_append_left _ (List.mem_of_getElem? (i := 14) rfl), rfl⟩) rfl
theorem g_1097 : Cond.selects RX10 yX10_copy yX10_copy ∈ f_GW := f_inP (List.mem_map.mpr ⟨_, List.mem_append_left _ (List.mem_of_getElem? (i := 15) rfl), rfl⟩) rfl
theorem g_1098 : Cond.selects RX11 yX11_isBreaker yX11_isBreaker ∈ f_GW := f_inP (List.mem_map.mpr ⟨_, List.mem_append_right _ (List.mem_append_left _ (List.mem_of_getElem? (i := 0) rfl)), rfl⟩) rfl
theorem g_1099 : Cond.selects RX1 yX1_mayBreak yX1_mayBreak ∈ f_GW := f_inP (List.mem_map.mpr ⟨_, List.mem_append_right _ (List.mem_append_left _ (List.mem_of_getElem? (i := 1) rfl)), rfl⟩) rfl
theorem g_1100 : Cond.selects RX3 yX3_look yX3_look ∈ f_GW := f_inP (List.mem_map.mpr ⟨_, List.mem_append_right _ (List.mem_append_left _ (List.mem_of_getElem? (i := 2) rfl)), rfl⟩) rfl
theorem g_1101 : Cond.selects RX3 yX3_freeNotches yX3_freeNotches ∈ f_GW := f_inP (List.mem_map.mpr ⟨_, List.mem_append_right _ (List.mem_append_left _ (List.mem_of_getElem? (i := 3) rfl)), rfl⟩) rfl
theorem g_1102 : Cond.selects RX3 yX3_innerNotches yX3_innerNotches ∈ f_GW := f_inP (List.mem_map.mpr ⟨_, List.mem_append_right _ (List.mem_append_left _ (List.mem_of_getElem? (i := 4) rfl)), rfl⟩) rfl
theorem g_1103 : Cond.selects RX3 yX3_holding yX3_holding ∈ f_GW := f_inP (List.mem_map.mpr ⟨_, List.mem_append_right _ (List.mem_append_left _ (List.mem_of_getElem? (i := 5) rfl)), rfl⟩) rfl
theorem g_1104 : Cond.selects RX3 yX3_passing yX3_passing ∈ f_GW := f_inP (List.mem_map.mpr ⟨_, List.mem_append_right _ (List.mem_append_left _ (List.mem_of_getElem? (i := 6) rfl)), rfl⟩) rfl
theorem g_1105 : Cond.selects RX1 yX1_chosenPiece yX1_chosenPiece ∈ f_GW := f_inP (List.mem_map.mpr ⟨_, List.mem_append_right _ (List.mem_append_left _ (List.mem_of_getElem? (i := 7) rfl)), rfl⟩) rfl
theorem g_1106 : Cond.selects RX1 yX1_longestOpen yX1_longestOpen ∈ f_GW := f_inP (List.mem_map.mpr ⟨_, List.mem_append_right _ (List.mem_append_left _ (List.mem_of_getElem? (i := 8) rfl)), rfl⟩) rfl
theorem g_1107 : Cond.selects RX1 yX1_openLength yX1_openLength ∈ f_GW := f_inP (List.mem_map.mpr ⟨_, List.mem_append_right _ (List.mem_append_left _ (List.mem_of_getElem? (i := 9) rfl)), rfl⟩) rfl
theorem g_1108 : Cond.selects RX1 yX1_shortestOpen yX1_shortestOpen ∈ f_GW := f_inP (List.mem_map.mpr ⟨_, List.mem_append_right _ (List.mem_append_left _ (List.mem_of_getElem? (i := 10) rfl)), rfl⟩) rfl
theorem g_1109 : Cond.selects RX1 yX1_farthest yX1_farthest ∈ f_GW := f_inP (List.mem_map.mpr ⟨_, List.mem_append_right _ (List.mem_append_left _ (List.mem_of_getElem? (i := 11) rfl)), rfl⟩) rfl
theorem g_1110 : Cond.selects RX1 yX1_priceOf yX1_priceOf ∈ f_GW := f_inP (List.mem_map.mpr ⟨_, List.mem_append_right _ (List.mem_append_left _ (List.mem_of_getElem? (i := 12) rfl)), rfl⟩) rfl
theorem g_1111 : Cond.selects RX3 yX3_priceOf yX3_priceOf ∈ f_GW := f_inP (List.mem_map.mpr ⟨_, List.mem_append_right _ (List.mem_append_left _ (List.mem_of_getElem? (i := 13) rfl)), rfl⟩) rfl
theorem g_1112 : Cond.selects RX7 yX7_lay yX7_lay ∈ f_GW := f_inP (List.mem_map.mpr ⟨_, List.mem_append_right _ (List.mem_append_left _ (List.mem_of_getElem? (i := 14) rfl)), rfl⟩) rfl
theorem g_1113 : Cond.selects RX7 yX7_add yX7_add ∈ f_GW := f_inP (List.mem_map.mpr ⟨_, List.mem_append_right _ (List.mem_append_left _ (List.mem_of_getElem? (i := 15) rfl)), rfl⟩) rfl
theorem g_1114 : Cond.selects RX7 yX7_closes yX7_closes ∈ f_GW := f_inP (List.mem_map.mpr ⟨_, List.mem_append_right _ (List.mem_append_right _ (List.mem_append_left _ (List.mem_of_getElem? (i := 0) rfl))), rfl⟩) rfl
theorem g_1115 : Cond.selects RX7 yX7_longest yX7_longest ∈ f_GW := f_inP (List.mem_map.mpr ⟨_, List.mem_append_right _ (List.mem_append_right _ (List.mem_append_left _ (List.mem_of_getElem? (i := 1) rfl))), rfl⟩) rfl
theorem g_1116 : Cond.selects RX7 yX7_isSquare yX7_isSquare ∈ f_GW := f_inP (List.mem_map.mpr ⟨_, List.mem_append_right _ (List.mem_append_right _ (List.mem_append_left _ (List.mem_of_getElem? (i := 2) rfl))), rfl⟩) rfl
theorem g_1117 : Cond.selects RX7 yX7_lesserSquares yX7_lesserSquares ∈ f_GW := f_inP (List.mem_map.mpr ⟨_, List.mem_append_right _ (List.mem_append_right _ (List.mem_append_left _ (List.mem_of_getElem? (i := 3) rfl))), rfl⟩) rfl
theorem g_1118 : Cond.selects RX7 yX7_isBlunt yX7_isBlunt ∈ f_GW := f_inP (List.mem_map.mpr ⟨_, List.mem_append_right _ (List.mem_append_right _ (List.mem_append_left _ (List.mem_of_getElem? (i := 4) rfl))), rfl⟩) rfl
theorem g_1119 : Cond.selects RX7 yX7_lengthAt yX7_lengthAt ∈ f_GW := f_inP (List.mem_map.mpr ⟨_, List.mem_append_right _ (List.mem_append_right _ (List.mem_append_left _ (List.mem_of_getElem? (i := 5) rfl))), rfl⟩) rfl
theorem g_1120 : Cond.selects RX2 yX2_spread yX2_spread ∈ f_GW := f_inP (List.mem_map.mpr ⟨_, List.mem_append_right _ (List.mem_append_right _ (List.mem_append_left _ (List.mem_of_getElem? (i := 6) rfl))), rfl⟩) rfl
theorem g_1121 : Cond.selects RX2 yX2_shareOut yX2_shareOut ∈ f_GW := f_inP (List.mem_map.mpr ⟨_, List.mem_append_right _ (List.mem_append_right _ (List.mem_append_left _ (List.mem_of_getElem? (i := 7) rfl))), rfl⟩) rfl
theorem g_1122 : Cond.selects RX2 yX2_weightOf yX2_weightOf ∈ f_GW := f_inP (List.mem_map.mpr ⟨_, List.mem_append_right _ (List.mem_append_right _ (List.mem_append_left _ (List.mem_of_getElem? (i := 8) rfl))), rfl⟩) rfl
theorem g_1123 : Cond.selects RX7 yX7_fits yX7_fits ∈ f_GW := f_inP (List.mem_map.mpr ⟨_, List.mem_append_right _ (List.mem_append_right _ (List.mem_append_left _ (List.mem_of_getElem? (i := 9) rfl))), rfl⟩) rfl
theorem g_1124 : Cond.selects RX7 yX7_isUnlike yX7_isUnlike ∈ f_GW := f_inP (List.mem_map.mpr ⟨_, List.mem_append_right _ (List.mem_append_right _ (List.mem_append_left _ (List.mem_of_getElem? (i := 10) rfl))), rfl⟩) rfl
theorem g_1125 : Cond.selects RX7 yX7_has yX7_has ∈ f_GW := f_inP (List.mem_map.mpr ⟨_, List.mem_append_right _ (List.mem_append_right _ (List.mem_append_left _ (List.mem_of_getElem? (i := 11) rfl))), rfl⟩) rfl
theorem g_1126 : Cond.selects RX2 yX2_lengthsAt yX2_lengthsAt ∈ f_GW := f_inP (List.mem_map.mpr ⟨_, List.mem_append_right _ (List.mem_append_right _ (List.mem_append_left _ (List.mem_of_getElem? (i := 12) rfl))), rfl⟩) rfl
theorem g_1127 : Cond.selects RX6 yX6_coverings yX6_coverings ∈ f_GW := f_inP (List.mem_map.mpr ⟨_, List.mem_append_right _ (List.mem_append_right _ (List.mem_append_left _ (List.mem_of_getElem? (i := 13) rfl))), rfl⟩) rfl
theorem g_1128 : Cond.selects RX6 yX6_countOnto yX6_countOnto ∈ f_GW := f_inP (List.mem_map.mpr ⟨_, List.mem_append_right _ (List.mem_append_right _ (List.mem_append_left _ (List.mem_of_getElem? (i := 14) rfl))), rfl⟩) rfl
theorem g_1129 : Cond.selects RX9 yX9_mostUnclosing yX9_mostUnclosing ∈ f_GW := f_inP (List.mem_map.mpr ⟨_, List.mem_append_right _ (List.mem_append_right _ (List.mem_append_left _ (List.mem_of_getElem? (i := 15) rfl))), rfl⟩) rfl
theorem g_1130 : Cond.selects RX9 yX9_sort yX9_sort ∈ f_GW := f_inP (List.mem_map.mpr ⟨_, List.mem_append_right _ (List.mem_append_right _ (List.mem_append_right _ (List.mem_append_left _ (List.mem_of_getElem? (i := 0) rfl)))), rfl⟩) rfl
theorem g_1131 : Cond.selects RX9 yX9_isUnclosing yX9_isUnclosing ∈ f_GW := f_inP (List.mem_map.mpr ⟨_, List.mem_append_right _ (List.mem_append_right _ (List.mem_append_right _ (List.mem_append_left _ (List.mem_of_getElem? (i := 1) rfl)))), rfl⟩) rfl
theorem g_1132 : Cond.selects RX9 yX9_sawUp yX9_sawUp ∈ f_GW := f_inP (List.mem_map.mpr ⟨_, List.mem_append_right _ (List.mem_append_right _ (List.mem_append_right _ (List.mem_append_left _ (List.mem_of_getElem? (i := 2) rfl)))), rfl⟩) rfl
theorem g_1133 : Cond.selects RX9 yX9_sawOff yX9_sawOff ∈ f_GW := f_inP (List.mem_map.mpr ⟨_, List.mem_append_right _ (List.mem_append_right _ (List.mem_append_right _ (List.mem_append_left _ (List.mem_of_getElem? (i := 3) rfl)))), rfl⟩) rfl
theorem g_1134 : Cond.selects RX4 yX4_follow yX4_follow ∈ f_GW := f_inP (List.mem_map.mpr ⟨_, List.mem_append_right _ (List.mem_append_right _ (List.mem_append_right _ (List.mem_append_left _ (List.mem_of_getElem? (i := 4) rfl)))), rfl⟩) rfl
theorem g_1135 : Cond.selects RX4 yX4_breakOn yX4_breakOn ∈ f_GW := f_inP (List.mem_map.mpr ⟨_, List.mem_append_right _ (List.mem_append_right _ (List.mem_append_right _ (List.mem_append_left _ (List.mem_of_getElem? (i := 5) rfl)))), rfl⟩) rfl
theorem g_1136 : Cond.selects RX4 yX4_longerRow yX4_longerRow ∈ f_GW := f_inP (List.mem_map.mpr ⟨_, List.mem_append_right _ (List.mem_append_right _ (List.mem_append_right _ (List.mem_append_left _ (List.mem_of_getElem? (i := 6) rfl)))), rfl⟩) rfl
theorem g_1137 : Cond.selects RX4 yX4_comparableWeight yX4_comparableWeight ∈ f_GW := f_inP (List.mem_map.mpr ⟨_, List.mem_append_right _ (List.mem_append_right _ (List.mem_append_right _ (List.mem_append_left _ (List.mem_of_getElem? (i := 7) rfl)))), rfl⟩) rfl
theorem g_1138 : Cond.selects RX0 yX0_start yX0_start ∈ f_GW := f_inP (List.mem_map.mpr ⟨_, List.mem_append_right _ (List.mem_append_right _ (List.mem_append_right _ (List.mem_append_left _ (List.mem_of_getElem? (i := 8) rfl)))), rfl⟩) rfl
theorem g_1139 : Cond.selects RX0 yX0_run yX0_run ∈ f_GW := f_inP (List.mem_map.mpr ⟨_, List.mem_append_right _ (List.mem_append_right _ (List.mem_append_right _ (List.mem_append_left _ (List.mem_of_getElem? (i := 9) rfl)))), rfl⟩) rfl
theorem g_1140 : Cond.selects RX8 yX8_copy yX8_copy ∈ f_GW := f_inP (List.mem_map.mpr ⟨_, List.mem_append_right _ (List.mem_append_right _ (List.mem_append_right _ (List.mem_append_left _ (List.mem_of_getElem? (i := 10) rfl)))), rfl⟩) rfl
theorem g_1141 : Cond.selects RX12 yX12_clauseHere yX12_clauseHere ∈ f_GW := f_inP (List.mem_map.mpr ⟨_, List.mem_append_right _ (List.mem_append_right _ (List.mem_append_right _ (List.mem_append_left _ (List.mem_of_getElem? (i := 11) rfl)))), rfl⟩) rfl
theorem g_1142 : Cond.selects RX12 yX12_here yX12_here ∈ f_GW := f_inP (List.mem_map.mpr ⟨_, List.mem_append_right _ (List.mem_append_right _ (List.mem_append_right _ (List.mem_append_left _ (List.mem_of_getElem? (i := 12) rfl)))), rfl⟩) rfl
theorem g_1143 : Cond.selects RX12 yX12_tellsHere yX12_tellsHere ∈ f_GW := f_inP (List.mem_map.mpr ⟨_, List.mem_append_right _ (List.mem_append_right _ (List.mem_append_right _ (List.mem_append_left _ (List.mem_of_getElem? (i := 13) rfl)))), rfl⟩) rfl
theorem g_1144 : Cond.selects RX12 yX12_spells yX12_spells ∈ f_GW := f_inP (List.mem_map.mpr ⟨_, List.mem_append_right _ (List.mem_append_right _ (List.mem_append_right _ (List.mem_append_left _ (List.mem_of_getElem? (i := 14) rfl)))), rfl⟩) rfl
theorem g_1145 : Cond.selects RX12 yX12_must yX12_must ∈ f_GW := f_inP (List.mem_map.mpr ⟨_, List.mem_append_right _ (List.mem_append_right _ (List.mem_append_right _ (List.mem_append_left _ (List.mem_of_getElem? (i := 15) rfl)))), rfl⟩) rfl
theorem g_1146 : Cond.selects RX12 yX12_figures yX12_figures ∈ f_GW := f_inP (List.mem_map.mpr ⟨_, List.mem_append_right _ (List.mem_append_right _ (List.mem_append_right _ (List.mem_append_right _ (List.mem_append_left _ (List.mem_of_getElem? (i := 0) rfl))))), rfl⟩) rfl
theorem g_1147 : Cond.selects RX12 yX12_much yX12_much ∈ f_GW := f_inP (List.mem_map.mpr ⟨_, List.mem_append_right _ (List.mem_append_right _ (List.mem_append_right _ (List.mem_append_right _ (List.mem_append_left _ (List.mem_of_getElem? (i := 1) rfl))))), rfl⟩) rfl
theorem g_1148 : Cond.selects RX12 yX12_some yX12_some ∈ f_GW := f_inP (List.mem_map.mpr ⟨_, List.mem_append_right _ (List.mem_append_right _ (List.mem_append_right _ (List.mem_append_right _ (List.mem_append_left _ (List.mem_of_getElem? (i := 2) rfl))))), rfl⟩) rfl
theorem g_1149 : Cond.selects RX12 yX12_every yX12_every ∈ f_GW := f_inP (List.mem_map.mpr ⟨_, List.mem_append_right _ (List.mem_append_right _ (List.mem_append_right _ (List.mem_append_right _ (List.mem_append_left _ (List.mem_of_getElem? (i := 3) rfl))))), rfl⟩) rfl
theorem g_1150 : Cond.selects RX12 yX12_factor yX12_factor ∈ f_GW := f_inP (List.mem_map.mpr ⟨_, List.mem_append_right _ (List.mem_append_right _ (List.mem_append_right _ (List.mem_append_right _ (List.mem_append_left _ (List.mem_of_getElem? (i := 4) rfl))))), rfl⟩) rfl
theorem g_1151 : Cond.selects RX12 yX12_emits yX12_emits ∈ f_GW := f_inP (List.mem_map.mpr ⟨_, List.mem_append_right _ (List.mem_append_right _ (List.mem_append_right _ (List.mem_append_right _ (List.mem_append_left _ (List.mem_of_getElem? (i := 5) rfl))))), rfl⟩) rfl
theorem g_1152 : Cond.selects RX12 yX12_among yX12_among ∈ f_GW := f_inP (List.mem_map.mpr ⟨_, List.mem_append_right _ (List.mem_append_right _ (List.mem_append_right _ (List.mem_append_right _ (List.mem_append_left _ (List.mem_of_getElem? (i := 6) rfl))))), rfl⟩) rfl
theorem g_1153 : Cond.selects RX12 yX12_isBreaker yX12_isBreaker ∈ f_GW := f_inP (List.mem_map.mpr ⟨_, List.mem_append_right _ (List.mem_append_right _ (List.mem_append_right _ (List.mem_append_right _ (List.mem_append_left _ (List.mem_of_getElem? (i := 7) rfl))))), rfl⟩) rfl
theorem g_1154 : Cond.selects RX12 yX12_mayOf yX12_mayOf ∈ f_GW := f_inP (List.mem_map.mpr ⟨_, List.mem_append_right _ (List.mem_append_right _ (List.mem_append_right _ (List.mem_append_right _ (List.mem_append_left _ (List.mem_of_getElem? (i := 8) rfl))))), rfl⟩) rfl
theorem g_1155 : Cond.selects RX12 yX12_looksForFree yX12_looksForFree ∈ f_GW := f_inP (List.mem_map.mpr ⟨_, List.mem_append_right _ (List.mem_append_right _ (List.mem_append_right _ (List.mem_append_right _ (List.mem_append_left _ (List.mem_of_getElem? (i := 9) rfl))))), rfl⟩) rfl
theorem g_1156 : Cond.selects RX12 yX12_looksForPieces yX12_looksForPieces ∈ f_GW := f_inP (List.mem_map.mpr ⟨_, List.mem_append_right _ (List.mem_append_right _ (List.mem_append_right _ (List.mem_append_right _ (List.mem_append_left _ (List.mem_of_getElem? (i := 10) rfl))))), rfl⟩) rfl
theorem g_1157 : Cond.selects RX12 yX12_longNow yX12_longNow ∈ f_GW := f_inP (List.mem_map.mpr ⟨_, List.mem_append_right _ (List.mem_append_right _ (List.mem_append_right _ (List.mem_append_right _ (List.mem_append_left _ (List.mem_of_getElem? (i := 11) rfl))))), rfl⟩) rfl
theorem g_1158 : Cond.selects RX12 yX12_looks yX12_looks ∈ f_GW := f_inP (List.mem_map.mpr ⟨_, List.mem_append_right _ (List.mem_append_right _ (List.mem_append_right _ (List.mem_append_right _ (List.mem_append_left _ (List.mem_of_getElem? (i := 12) rfl))))), rfl⟩) rfl
theorem g_1159 : Cond.selects RX12 yX12_freeOfLongest yX12_freeOfLongest ∈ f_GW := f_inP (List.mem_map.mpr ⟨_, List.mem_append_right _ (List.mem_append_right _ (List.mem_append_right _ (List.mem_append_right _ (List.mem_append_left _ (List.mem_of_getElem? (i := 13) rfl))))), rfl⟩) rfl
theorem g_1160 : Cond.selects RX12 yX12_longOf yX12_longOf ∈ f_GW := f_inP (List.mem_map.mpr ⟨_, List.mem_append_right _ (List.mem_append_right _ (List.mem_append_right _ (List.mem_append_right _ (List.mem_append_left _ (List.mem_of_getElem? (i := 14) rfl))))), rfl⟩) rfl
theorem g_1161 : Cond.selects RX12 yX12_freeOfShortest yX12_freeOfShortest ∈ f_GW := f_inP (List.mem_map.mpr ⟨_, List.mem_append_right _ (List.mem_append_right _ (List.mem_append_right _ (List.mem_append_right _ (List.mem_append_left _ (List.mem_of_getElem? (i := 15) rfl))))), rfl⟩) rfl
theorem g_1162 : Cond.selects RX12 yX12_freeOfNumber yX12_freeOfNumber ∈ f_GW := f_inP (List.mem_map.mpr ⟨_, List.mem_append_right _ (List.mem_append_right _ (List.mem_append_right _ (List.mem_append_right _ (List.mem_append_right _ (List.mem_append_left _ (List.mem_of_getElem? (i := 0) rfl)))))), rfl⟩) rfl
theorem g_1163 : Cond.selects RX12 yX12_inmost yX12_inmost ∈ f_GW := f_inP (List.mem_map.mpr ⟨_, List.mem_append_right _ (List.mem_append_right _ (List.mem_append_right _ (List.mem_append_right _ (List.mem_append_right _ (List.mem_append_left _ (List.mem_of_getElem? (i := 1) rfl)))))), rfl⟩) rfl
theorem g_1164 : Cond.selects RX12 yX12_allFree yX12_allFree ∈ f_GW := f_inP (List.mem_map.mpr ⟨_, List.mem_append_right _ (List.mem_append_right _ (List.mem_append_right _ (List.mem_append_right _ (List.mem_append_right _ (List.mem_append_left _ (List.mem_of_getElem? (i := 2) rfl)))))), rfl⟩) rfl
theorem g_1165 : Cond.selects RX12 yX12_cutsToMake yX12_cutsToMake ∈ f_GW := f_inP (List.mem_map.mpr ⟨_, List.mem_append_right _ (List.mem_append_right _ (List.mem_append_right _ (List.mem_append_right _ (List.mem_append_right _ (List.mem_append_left _ (List.mem_of_getElem? (i := 3) rfl)))))), rfl⟩) rfl
theorem g_1166 : Cond.selects RX12 yX12_sorts yX12_sorts ∈ f_GW := f_inP (List.mem_map.mpr ⟨_, List.mem_append_right _ (List.mem_append_right _ (List.mem_append_right _ (List.mem_append_right _ (List.mem_append_right _ (List.mem_append_left _ (List.mem_of_getElem? (i := 4) rfl)))))), rfl⟩) rfl
theorem g_1167 : Cond.selects RX12 yX12_isSuch yX12_isSuch ∈ f_GW := f_inP (List.mem_map.mpr ⟨_, List.mem_append_right _ (List.mem_append_right _ (List.mem_append_right _ (List.mem_append_right _ (List.mem_append_right _ (List.mem_append_left _ (List.mem_of_getElem? (i := 5) rfl)))))), rfl⟩) rfl
theorem g_1168 : Cond.selects RX12 yX12_doClose yX12_doClose ∈ f_GW := f_inP (List.mem_map.mpr ⟨_, List.mem_append_right _ (List.mem_append_right _ (List.mem_append_right _ (List.mem_append_right _ (List.mem_append_right _ (List.mem_append_left _ (List.mem_of_getElem? (i := 6) rfl)))))), rfl⟩) rfl
theorem g_1169 : Cond.selects RX12 yX12_squares yX12_squares ∈ f_GW := f_inP (List.mem_map.mpr ⟨_, List.mem_append_right _ (List.mem_append_right _ (List.mem_append_right _ (List.mem_append_right _ (List.mem_append_right _ (List.mem_append_left _ (List.mem_of_getElem? (i := 7) rfl)))))), rfl⟩) rfl
theorem g_1170 : Cond.selects RX12 yX12_hasOfAll yX12_hasOfAll ∈ f_GW := f_inP (List.mem_map.mpr ⟨_, List.mem_append_right _ (List.mem_append_right _ (List.mem_append_right _ (List.mem_append_right _ (List.mem_append_right _ (List.mem_append_left _ (List.mem_of_getElem? (i := 8) rfl)))))), rfl⟩) rfl
theorem g_1171 : Cond.selects RX12 yX12_sumBy yX12_sumBy ∈ f_GW := f_inP (List.mem_map.mpr ⟨_, List.mem_append_right _ (List.mem_append_right _ (List.mem_append_right _ (List.mem_append_right _ (List.mem_append_right _ (List.mem_append_left _ (List.mem_of_getElem? (i := 9) rfl)))))), rfl⟩) rfl
theorem g_1172 : Cond.selects RX12 yX12_breaksOn yX12_breaksOn ∈ f_GW := f_inP (List.mem_map.mpr ⟨_, List.mem_append_right _ (List.mem_append_right _ (List.mem_append_right _ (List.mem_append_right _ (List.mem_append_right _ (List.mem_append_left _ (List.mem_of_getElem? (i := 10) rfl)))))), rfl⟩) rfl
theorem g_1173 : Cond.selects RX12 yX12_ends yX12_ends ∈ f_GW := f_inP (List.mem_map.mpr ⟨_, List.mem_append_right _ (List.mem_append_right _ (List.mem_append_right _ (List.mem_append_right _ (List.mem_append_right _ (List.mem_append_left _ (List.mem_of_getElem? (i := 11) rfl)))))), rfl⟩) rfl
theorem g_1174 : Cond.selects RX12 yX12_all yX12_all ∈ f_GW := f_inP (List.mem_map.mpr ⟨_, List.mem_append_right _ (List.mem_append_right _ (List.mem_append_right _ (List.mem_append_right _ (List.mem_append_right _ (List.mem_append_left _ (List.mem_of_getElem? (i := 12) rfl)))))), rfl⟩) rfl
theorem g_1175 : Cond.selects RX12 yX12_paysOn yX12_paysOn ∈ f_GW := f_inP (List.mem_map.mpr ⟨_, List.mem_append_right _ (List.mem_append_right _ (List.mem_append_right _ (List.mem_append_right _ (List.mem_append_right _ (List.mem_append_left _ (List.mem_of_getElem? (i := 13) rfl)))))), rfl⟩) rfl
theorem g_1176 : Cond.selects RX12 yX12_lays yX12_lays ∈ f_GW := f_inP (List.mem_map.mpr ⟨_, List.mem_append_right _ (List.mem_append_right _ (List.mem_append_right _ (List.mem_append_right _ (List.mem_append_right _ (List.mem_append_left _ (List.mem_of_getElem? (i := 14) rfl)))))), rfl⟩) rfl
theorem g_1177 : Cond.selects RX12 yX12_closing yX12_closing ∈ f_GW := f_inP (List.mem_map.mpr ⟨_, List.mem_append_right _ (List.mem_append_right _ (List.mem_append_right _ (List.mem_append_right _ (List.mem_append_right _ (List.mem_append_left _ (List.mem_of_getElem? (i := 15) rfl)))))), rfl⟩) rfl
theorem g_1178 : Cond.selects RX12 yX12_freesFrom yX12_freesFrom ∈ f_GW := f_inP (List.mem_map.mpr ⟨_, List.mem_append_right _ (List.mem_append_right _ (List.mem_append_right _ (List.mem_append_right _ (List.mem_append_right _ (List.mem_append_right _ (List.mem_append_left _ (List.mem_of_getElem? (i := 0) rfl))))))), rfl⟩) rfl
theorem g_1179 : Cond.selects RX12 yX12_isFree yX12_isFree ∈ f_GW := f_inP (List.mem_map.mpr ⟨_, List.mem_append_right _ (List.mem_append_right _ (List.mem_append_right _ (List.mem_append_right _ (List.mem_append_right _ (List.mem_append_right _ (List.mem_append_left _ (List.mem_of_getElem? (i := 1) rfl))))))), rfl⟩) rfl
theorem g_1180 : Cond.selects RX12 yX12_sawsFrom yX12_sawsFrom ∈ f_GW := f_inP (List.mem_map.mpr ⟨_, List.mem_append_right _ (List.mem_append_right _ (List.mem_append_right _ (List.mem_append_right _ (List.mem_append_right _ (List.mem_append_right _ (List.mem_append_left _ (List.mem_of_getElem? (i := 2) rfl))))))), rfl⟩) rfl
theorem g_1181 : Cond.selects RX12 yX12_triesSaw yX12_triesSaw ∈ f_GW := f_inP (List.mem_map.mpr ⟨_, List.mem_append_right _ (List.mem_append_right _ (List.mem_append_right _ (List.mem_append_right _ (List.mem_append_right _ (List.mem_append_right _ (List.mem_append_left _ (List.mem_of_getElem? (i := 3) rfl))))))), rfl⟩) rfl
theorem g_1182 : Cond.selects RX12 yX12_sawTriangles yX12_sawTriangles ∈ f_GW := f_inP (List.mem_map.mpr ⟨_, List.mem_append_right _ (List.mem_append_right _ (List.mem_append_right _ (List.mem_append_right _ (List.mem_append_right _ (List.mem_append_right _ (List.mem_append_left _ (List.mem_of_getElem? (i := 4) rfl))))))), rfl⟩) rfl
theorem g_1183 : Cond.selects RX12 yX12_looksForOrders yX12_looksForOrders ∈ f_GW := f_inP (List.mem_map.mpr ⟨_, List.mem_append_right _ (List.mem_append_right _ (List.mem_append_right _ (List.mem_append_right _ (List.mem_append_right _ (List.mem_append_right _ (List.mem_append_left _ (List.mem_of_getElem? (i := 5) rfl))))))), rfl⟩) rfl
theorem g_1184 : Cond.selects RX12 yX12_canBe yX12_canBe ∈ f_GW := f_inP (List.mem_map.mpr ⟨_, List.mem_append_right _ (List.mem_append_right _ (List.mem_append_right _ (List.mem_append_right _ (List.mem_append_right _ (List.mem_append_right _ (List.mem_append_left _ (List.mem_of_getElem? (i := 6) rfl))))))), rfl⟩) rfl
theorem g_1185 : Cond.selects RX12 yX12_ordersOn yX12_ordersOn ∈ f_GW := f_inP (List.mem_map.mpr ⟨_, List.mem_append_right _ (List.mem_append_right _ (List.mem_append_right _ (List.mem_append_right _ (List.mem_append_right _ (List.mem_append_right _ (List.mem_append_left _ (List.mem_of_getElem? (i := 7) rfl))))))), rfl⟩) rfl
theorem g_1186 : Cond.selects RX12 yX12_puts yX12_puts ∈ f_GW := f_inP (List.mem_map.mpr ⟨_, List.mem_append_right _ (List.mem_append_right _ (List.mem_append_right _ (List.mem_append_right _ (List.mem_append_right _ (List.mem_append_right _ (List.mem_append_left _ (List.mem_of_getElem? (i := 8) rfl))))))), rfl⟩) rfl
theorem g_1187 : Cond.selects RX12 yX12_takes yX12_takes ∈ f_GW := f_inP (List.mem_map.mpr ⟨_, List.mem_append_right _ (List.mem_append_right _ (List.mem_append_right _ (List.mem_append_right _ (List.mem_append_right _ (List.mem_append_right _ (List.mem_append_left _ (List.mem_of_getElem? (i := 9) rfl))))))), rfl⟩) rfl
theorem g_1188 : Cond.selects RX12 yX12_bendsActs yX12_bendsActs ∈ f_GW := f_inP (List.mem_map.mpr ⟨_, List.mem_append_right _ (List.mem_append_right _ (List.mem_append_right _ (List.mem_append_right _ (List.mem_append_right _ (List.mem_append_right _ (List.mem_append_left _ (List.mem_of_getElem? (i := 10) rfl))))))), rfl⟩) rfl
theorem g_1189 : Cond.selects RX12 yX12_ranBody yX12_ranBody ∈ f_GW := f_inP (List.mem_map.mpr ⟨_, List.mem_append_right _ (List.mem_append_right _ (List.mem_append_right _ (List.mem_append_right _ (List.mem_append_right _ (List.mem_append_right _ (List.mem_append_left _ (List.mem_of_getElem? (i := 11) rfl))))))), rfl⟩) rfl
theorem g_1190 : Cond.selects RX12 yX12_plainBends yX12_plainBends ∈ f_GW := f_inP (List.mem_map.mpr ⟨_, List.mem_append_right _ (List.mem_append_right _ (List.mem_append_right _ (List.mem_append_right _ (List.mem_append_right _ (List.mem_append_right _ (List.mem_append_left _ (List.mem_of_getElem? (i := 12) rfl))))))), rfl⟩) rfl
theorem g_1191 : Cond.selects RX12 yX12_breaksActs yX12_breaksActs ∈ f_GW := f_inP (List.mem_map.mpr ⟨_, List.mem_append_right _ (List.mem_append_right _ (List.mem_append_right _ (List.mem_append_right _ (List.mem_append_right _ (List.mem_append_right _ (List.mem_append_left _ (List.mem_of_getElem? (i := 13) rfl))))))), rfl⟩) rfl
theorem g_1192 : Cond.selects RX12 yX12_plainBreaks yX12_plainBreaks ∈ f_GW := f_inP (List.mem_map.mpr ⟨_, List.mem_append_right _ (List.mem_append_right _ (List.mem_append_right _ (List.mem_append_right _ (List.mem_append_right _ (List.mem_append_right _ (List.mem_append_left _ (List.mem_of_getElem? (i := 14) rfl))))))), rfl⟩) rfl
theorem g_1193 : Cond.selects RX12 yX12_tellsActs yX12_tellsActs ∈ f_GW := f_inP (List.mem_map.mpr ⟨_, List.mem_append_right _ (List.mem_append_right _ (List.mem_append_right _ (List.mem_append_right _ (List.mem_append_right _ (List.mem_append_right _ (List.mem_append_left _ (List.mem_of_getElem? (i := 15) rfl))))))), rfl⟩) rfl
theorem g_1194 : Cond.selects RX12 yX12_plainTells yX12_plainTells ∈ f_GW := f_inP (List.mem_map.mpr ⟨_, List.mem_append_right _ (List.mem_append_right _ (List.mem_append_right _ (List.mem_append_right _ (List.mem_append_right _ (List.mem_append_right _ (List.mem_append_right _ (List.mem_of_getElem? (i := 0) rfl))))))), rfl⟩) rfl
theorem g_1195 : Cond.arrayClass .int ∈ f_GW := f_in1 (List.mem_of_getElem? (i := 80) rfl) rfl
theorem g_1196 : Cond.arrayClass .long ∈ f_GW := f_in2 (List.mem_of_getElem? (i := 61) rfl) rfl
theorem g_1197 : Cond.arrayClass .boolean ∈ f_GW := f_in5 (List.mem_of_getElem? (i := 64) rfl) rfl
theorem g_1198 : Cond.arrayClass .byte ∈ f_GW := f_in5 (List.mem_of_getElem? (i := 178) rfl) rfl
theorem inX0 : ∀ w ∈ u_ws RX0 TX0 5, w ∈ f_GW := by
  intro w hw
  obtain ⟨k, hk, rfl⟩ := List.mem_map.mp hw
  have hk := List.mem_range.mp hk
  exact match k, hk with
    | 0, _ => g_238
    | 1, _ => g_239
    | 2, _ => g_240
    | 3, _ => g_241
    | 4, _ => g_242
theorem inX1 : ∀ w ∈ u_ws RX1 TX1 6, w ∈ f_GW := by
  intro w hw
  obtain ⟨k, hk, rfl⟩ := List.mem_map.mp hw
  have hk := List.mem_range.mp hk
  exact match k, hk with
    | 0, _ => g_130
    | 1, _ => g_131
    | 2, _ => g_132
    | 3, _ => g_133
    | 4, _ => g_134
    | 5, _ => g_135
theorem inX2 : ∀ w ∈ u_ws RX2 TX2 7, w ∈ f_GW := by
  intro w hw
  obtain ⟨k, hk, rfl⟩ := List.mem_map.mp hw
  have hk := List.mem_range.mp hk
  exact match k, hk with
    | 0, _ => g_180
    | 1, _ => g_181
    | 2, _ => g_182
    | 3, _ => g_183
    | 4, _ => g_184
    | 5, _ => g_185
    | 6, _ => g_186
theorem inX3 : ∀ w ∈ u_ws RX3 TX3 6, w ∈ f_GW := by
  intro w hw
  obtain ⟨k, hk, rfl⟩ := List.mem_map.mp hw
  have hk := List.mem_range.mp hk
  exact match k, hk with
    | 0, _ => g_118
    | 1, _ => g_119
    | 2, _ => g_120
    | 3, _ => g_121
    | 4, _ => g_122
    | 5, _ => g_123
theorem inX4 : ∀ w ∈ u_ws RX4 TX4 8, w ∈ f_GW := by
  intro w hw
  obtain ⟨k, hk, rfl⟩ := List.mem_map.mp hw
  have hk := List.mem_range.mp hk
  exact match k, hk with
    | 0, _ => g_200
    | 1, _ => g_201
    | 2, _ => g_202
    | 3, _ => g_203
    | 4, _ => g_204
    | 5, _ => g_205
    | 6, _ => g_206
    | 7, _ => g_207
theorem inX5 : ∀ w ∈ u_ws RX5 TX5 5, w ∈ f_GW := by
  intro w hw
  obtain ⟨k, hk, rfl⟩ := List.mem_map.mp hw
  have hk := List.mem_range.mp hk
  exact match k, hk with
    | 0, _ => g_97
    | 1, _ => g_98
    | 2, _ => g_99
    | 3, _ => g_100
    | 4, _ => g_101
theorem inX6 : ∀ w ∈ u_ws RX6 TX6 1, w ∈ f_GW := by
  intro w hw
  obtain ⟨k, hk, rfl⟩ := List.mem_map.mp hw
  have hk := List.mem_range.mp hk
  exact match k, hk with
    | 0, _ => g_214
theorem inX7 : ∀ w ∈ u_ws RX7 TX7 3, w ∈ f_GW := by
  intro w hw
  obtain ⟨k, hk, rfl⟩ := List.mem_map.mp hw
  have hk := List.mem_range.mp hk
  exact match k, hk with
    | 0, _ => g_144
    | 1, _ => g_145
    | 2, _ => g_146
theorem inX8 : ∀ w ∈ u_ws RX8 TX8 16, w ∈ f_GW := by
  intro w hw
  obtain ⟨k, hk, rfl⟩ := List.mem_map.mp hw
  have hk := List.mem_range.mp hk
  exact match k, hk with
    | 0, _ => g_70
    | 1, _ => g_71
    | 2, _ => g_72
    | 3, _ => g_73
    | 4, _ => g_74
    | 5, _ => g_75
    | 6, _ => g_76
    | 7, _ => g_77
    | 8, _ => g_78
    | 9, _ => g_79
    | 10, _ => g_80
    | 11, _ => g_81
    | 12, _ => g_82
    | 13, _ => g_83
    | 14, _ => g_84
    | 15, _ => g_85
    | k + 16, h => absurd h (by omega)
theorem inX9 : ∀ w ∈ u_ws RX9 TX9 4, w ∈ f_GW := by
  intro w hw
  obtain ⟨k, hk, rfl⟩ := List.mem_map.mp hw
  have hk := List.mem_range.mp hk
  exact match k, hk with
    | 0, _ => g_224
    | 1, _ => g_225
    | 2, _ => g_226
    | 3, _ => g_227
theorem inX10 : ∀ w ∈ u_ws RX10 TX10 8, w ∈ f_GW := by
  intro w hw
  obtain ⟨k, hk, rfl⟩ := List.mem_map.mp hw
  have hk := List.mem_range.mp hk
  exact match k, hk with
    | 0, _ => g_46
    | 1, _ => g_47
    | 2, _ => g_48
    | 3, _ => g_49
    | 4, _ => g_50
    | 5, _ => g_51
    | 6, _ => g_52
    | 7, _ => g_53
theorem inX11 : ∀ w ∈ u_ws RX11 TX11 11, w ∈ f_GW := by
  intro w hw
  obtain ⟨k, hk, rfl⟩ := List.mem_map.mp hw
  have hk := List.mem_range.mp hk
  exact match k, hk with
    | 0, _ => g_254
    | 1, _ => g_255
    | 2, _ => g_256
    | 3, _ => g_257
    | 4, _ => g_258
    | 5, _ => g_259
    | 6, _ => g_260
    | 7, _ => g_261
    | 8, _ => g_262
    | 9, _ => g_263
    | 10, _ => g_264
theorem inX12 : ∀ w ∈ u_ws RX12 TX12 39, w ∈ f_GW := by
  intro w hw
  obtain ⟨k, hk, rfl⟩ := List.mem_map.mp hw
  have hk := List.mem_range.mp hk
  exact match k, hk with
    | 0, _ => g_662
    | 1, _ => g_663
    | 2, _ => g_664
    | 3, _ => g_665
    | 4, _ => g_666
    | 5, _ => g_667
    | 6, _ => g_668
    | 7, _ => g_669
    | 8, _ => g_670
    | 9, _ => g_671
    | 10, _ => g_672
    | 11, _ => g_673
    | 12, _ => g_674
    | 13, _ => g_675
    | 14, _ => g_676
    | 15, _ => g_677
    | 16, _ => g_678
    | 17, _ => g_679
    | 18, _ => g_680
    | 19, _ => g_681
    | 20, _ => g_682
    | 21, _ => g_683
    | 22, _ => g_684
    | 23, _ => g_685
    | 24, _ => g_686
    | 25, _ => g_687
    | 26, _ => g_688
    | 27, _ => g_689
    | 28, _ => g_690
    | 29, _ => g_691
    | 30, _ => g_692
    | 31, _ => g_693
    | 32, _ => g_694
    | 33, _ => g_695
    | 34, _ => g_696
    | 35, _ => g_697
    | 36, _ => g_698
    | 37, _ => g_699
    | 38, _ => g_700
    | k + 39, h => absurd h (by omega)
