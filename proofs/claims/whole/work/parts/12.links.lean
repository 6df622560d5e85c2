theorem w0 : ((Jvm.Cond.initialized "EchoGorgeLaw") : Cond) ∈ GW := gwt (i := 0) (by decide +kernel) (by decide +kernel)
theorem w1 : ((Jvm.Cond.initialized "EchoGorge") : Cond) ∈ GW := gwt (i := 1) (by decide +kernel) (by decide +kernel)
theorem w2 : ((Jvm.Cond.initialized "EchoGorge$Gorge") : Cond) ∈ GW := gwt (i := 2) (by decide +kernel) (by decide +kernel)
theorem w3 : ((Jvm.Cond.initialized "java/util/Arrays") : Cond) ∈ GW := gwt (i := 3) (by decide +kernel) (by decide +kernel)
theorem w4 : ((Jvm.Cond.initialized "EchoGorge$Scene") : Cond) ∈ GW := gwt (i := 4) (by decide +kernel) (by decide +kernel)
theorem w5 : ((Jvm.Cond.initialized "EchoGorge$Reader") : Cond) ∈ GW := gwt (i := 5) (by decide +kernel) (by decide +kernel)
theorem w6 : ((Jvm.Cond.initialized "EchoGorge$Returns") : Cond) ∈ GW := gwt (i := 6) (by decide +kernel) (by decide +kernel)
theorem w7 : ((Jvm.Cond.initialized "EchoGorge$Hearing") : Cond) ∈ GW := gwt (i := 7) (by decide +kernel) (by decide +kernel)
theorem w8 : ((Jvm.Cond.initialized "EchoGorge$Verses") : Cond) ∈ GW := gwt (i := 8) (by decide +kernel) (by decide +kernel)
theorem w9 : ((Jvm.Cond.initialized "EchoGorge$Chant") : Cond) ∈ GW := gwt (i := 9) (by decide +kernel) (by decide +kernel)
theorem w10 : ((Jvm.Cond.initialized "EchoGorge$Guess") : Cond) ∈ GW := gwt (i := 10) (by decide +kernel) (by decide +kernel)
theorem w11 : ((Jvm.Cond.initialized "EchoGorge$Truth") : Cond) ∈ GW := gwt (i := 11) (by decide +kernel) (by decide +kernel)
theorem w12 : ((Jvm.Cond.initialized "EchoGorge$Places") : Cond) ∈ GW := gwt (i := 12) (by decide +kernel) (by decide +kernel)
theorem w13 : ((Jvm.Cond.initialized "EchoGorge$Claps") : Cond) ∈ GW := gwt (i := 13) (by decide +kernel) (by decide +kernel)
theorem w14 : ((Jvm.Cond.initialized "EchoGorgeModel") : Cond) ∈ GW := gwt (i := 14) (by decide +kernel) (by decide +kernel)
theorem w18 : ((Jvm.Cond.initialized "java/lang/IllegalArgumentException") : Cond) ∈ GW := gwt (i := 18) (by decide +kernel) (by decide +kernel)
theorem w19 : ((Jvm.Cond.initialized "java/lang/Math") : Cond) ∈ GW := gwt (i := 19) (by decide +kernel) (by decide +kernel)
theorem w20 : ((Jvm.Cond.initialized "java/lang/String") : Cond) ∈ GW := gwt (i := 20) (by decide +kernel) (by decide +kernel)
theorem w24 : ((Jvm.Cond.initialized "java/util/NoSuchElementException") : Cond) ∈ GW := gwt (i := 24) (by decide +kernel) (by decide +kernel)
theorem w25 : ((Jvm.Cond.initialized "java/lang/System") : Cond) ∈ GW := gwt (i := 25) (by decide +kernel) (by decide +kernel)
theorem w26 : ((Jvm.Cond.initialized "java/lang/Integer") : Cond) ∈ GW := gwt (i := 26) (by decide +kernel) (by decide +kernel)
theorem w42 : ((Jvm.Cond.instanceMethod ⟨"EchoGorge$Gorge","clear","()V"⟩) : Cond) ∈ GW := gwt (i := 42) (by decide +kernel) (by decide +kernel)
theorem w43 : ((Jvm.Cond.selects "EchoGorge$Gorge" ⟨"EchoGorge$Gorge","clear","()V"⟩ ⟨"EchoGorge$Gorge","clear","()V"⟩) : Cond) ∈ GW := gwt (i := 43) (by decide +kernel) (by decide +kernel)
theorem w44 : ((Jvm.Cond.code ⟨"EchoGorge$Gorge","clear","()V"⟩ prog_4_method_2_code 1 (Option.none : Option Jvm.ClassFile.FieldType)) : Cond) ∈ GW := gwt (i := 44) (by decide +kernel) (by decide +kernel)
theorem w45 : ((Jvm.Cond.methodLink "EchoGorge$Gorge" 79 ⟨"java/util/Arrays","fill","([II)V"⟩) : Cond) ∈ GW := gwt (i := 45) (by decide +kernel) (by decide +kernel)
theorem w46 : ((Jvm.Cond.static ⟨"java/util/Arrays","fill","([II)V"⟩) : Cond) ∈ GW := gwt (i := 46) (by decide +kernel) (by decide +kernel)
theorem w47 : ((Jvm.Cond.code ⟨"java/util/Arrays","fill","([II)V"⟩ prog_30_method_103_code 4 (Option.none : Option Jvm.ClassFile.FieldType)) : Cond) ∈ GW := gwt (i := 47) (by decide +kernel) (by decide +kernel)
theorem w48 : ((Jvm.Cond.fieldLink "EchoGorge$Gorge" 57 "EchoGorge$Gorge" "sounds" "I") : Cond) ∈ GW := gwt (i := 48) (by decide +kernel) (by decide +kernel)
theorem w49 : ((Jvm.Cond.fieldLink "EchoGorge$Returns" 51 "EchoGorge$Gorge" "sounds" "I") : Cond) ∈ GW := gwt (i := 49) (by decide +kernel) (by decide +kernel)
theorem w50 : ((Jvm.Cond.fieldLink "EchoGorge$Chant" 59 "EchoGorge$Gorge" "sounds" "I") : Cond) ∈ GW := gwt (i := 50) (by decide +kernel) (by decide +kernel)
theorem w51 : ((Jvm.Cond.fieldLink "EchoGorge" 135 "EchoGorge$Gorge" "sounds" "I") : Cond) ∈ GW := gwt (i := 51) (by decide +kernel) (by decide +kernel)
theorem w52 : ((Jvm.Cond.fieldLink "EchoGorge$Guess" 107 "EchoGorge$Gorge" "sounds" "I") : Cond) ∈ GW := gwt (i := 52) (by decide +kernel) (by decide +kernel)
theorem w53 : ((Jvm.Cond.fieldLink "EchoGorge$Reader" 94 "EchoGorge$Gorge" "sounds" "I") : Cond) ∈ GW := gwt (i := 53) (by decide +kernel) (by decide +kernel)
theorem w54 : ((Jvm.Cond.fieldLink "EchoGorge$Gorge" 61 "EchoGorge$Gorge" "walls" "I") : Cond) ∈ GW := gwt (i := 54) (by decide +kernel) (by decide +kernel)
theorem w55 : ((Jvm.Cond.fieldLink "EchoGorge$Returns" 60 "EchoGorge$Gorge" "walls" "I") : Cond) ∈ GW := gwt (i := 55) (by decide +kernel) (by decide +kernel)
theorem w56 : ((Jvm.Cond.fieldLink "EchoGorge" 138 "EchoGorge$Gorge" "walls" "I") : Cond) ∈ GW := gwt (i := 56) (by decide +kernel) (by decide +kernel)
theorem w57 : ((Jvm.Cond.fieldLink "EchoGorge$Reader" 151 "EchoGorge$Gorge" "walls" "I") : Cond) ∈ GW := gwt (i := 57) (by decide +kernel) (by decide +kernel)
theorem w58 : ((Jvm.Cond.fieldLink "EchoGorge$Verses" 180 "EchoGorge$Gorge" "walls" "I") : Cond) ∈ GW := gwt (i := 58) (by decide +kernel) (by decide +kernel)
theorem w59 : ((Jvm.Cond.fieldLink "EchoGorge$Gorge" 64 "EchoGorge$Gorge" "words" "I") : Cond) ∈ GW := gwt (i := 59) (by decide +kernel) (by decide +kernel)
theorem w60 : ((Jvm.Cond.fieldLink "EchoGorge$Verses" 52 "EchoGorge$Gorge" "words" "I") : Cond) ∈ GW := gwt (i := 60) (by decide +kernel) (by decide +kernel)
theorem w61 : ((Jvm.Cond.fieldLink "EchoGorge" 141 "EchoGorge$Gorge" "words" "I") : Cond) ∈ GW := gwt (i := 61) (by decide +kernel) (by decide +kernel)
theorem w62 : ((Jvm.Cond.fieldLink "EchoGorge$Reader" 192 "EchoGorge$Gorge" "words" "I") : Cond) ∈ GW := gwt (i := 62) (by decide +kernel) (by decide +kernel)
theorem w63 : ((Jvm.Cond.fieldLink "EchoGorge$Gorge" 67 "EchoGorge$Gorge" "forms" "I") : Cond) ∈ GW := gwt (i := 63) (by decide +kernel) (by decide +kernel)
theorem w64 : ((Jvm.Cond.fieldLink "EchoGorge$Verses" 68 "EchoGorge$Gorge" "forms" "I") : Cond) ∈ GW := gwt (i := 64) (by decide +kernel) (by decide +kernel)
theorem w65 : ((Jvm.Cond.fieldLink "EchoGorge" 144 "EchoGorge$Gorge" "forms" "I") : Cond) ∈ GW := gwt (i := 65) (by decide +kernel) (by decide +kernel)
theorem w66 : ((Jvm.Cond.fieldLink "EchoGorge$Reader" 203 "EchoGorge$Gorge" "forms" "I") : Cond) ∈ GW := gwt (i := 66) (by decide +kernel) (by decide +kernel)
theorem w67 : ((Jvm.Cond.fieldLink "EchoGorge$Gorge" 70 "EchoGorge$Gorge" "least" "I") : Cond) ∈ GW := gwt (i := 67) (by decide +kernel) (by decide +kernel)
theorem w68 : ((Jvm.Cond.fieldLink "EchoGorge$Hearing" 57 "EchoGorge$Gorge" "least" "I") : Cond) ∈ GW := gwt (i := 68) (by decide +kernel) (by decide +kernel)
theorem w69 : ((Jvm.Cond.fieldLink "EchoGorge$Chant" 64 "EchoGorge$Gorge" "least" "I") : Cond) ∈ GW := gwt (i := 69) (by decide +kernel) (by decide +kernel)
theorem w70 : ((Jvm.Cond.fieldLink "EchoGorge$Guess" 117 "EchoGorge$Gorge" "least" "I") : Cond) ∈ GW := gwt (i := 70) (by decide +kernel) (by decide +kernel)
theorem w71 : ((Jvm.Cond.fieldLink "EchoGorge$Reader" 178 "EchoGorge$Gorge" "least" "I") : Cond) ∈ GW := gwt (i := 71) (by decide +kernel) (by decide +kernel)
theorem w72 : ((Jvm.Cond.fieldLink "EchoGorge$Verses" 170 "EchoGorge$Gorge" "least" "I") : Cond) ∈ GW := gwt (i := 72) (by decide +kernel) (by decide +kernel)
theorem w73 : ((Jvm.Cond.fieldLink "EchoGorge$Gorge" 73 "EchoGorge$Gorge" "window" "I") : Cond) ∈ GW := gwt (i := 73) (by decide +kernel) (by decide +kernel)
theorem w74 : ((Jvm.Cond.fieldLink "EchoGorge$Hearing" 62 "EchoGorge$Gorge" "window" "I") : Cond) ∈ GW := gwt (i := 74) (by decide +kernel) (by decide +kernel)
theorem w75 : ((Jvm.Cond.fieldLink "EchoGorge$Guess" 64 "EchoGorge$Gorge" "window" "I") : Cond) ∈ GW := gwt (i := 75) (by decide +kernel) (by decide +kernel)
theorem w76 : ((Jvm.Cond.fieldLink "EchoGorge" 211 "EchoGorge$Gorge" "window" "I") : Cond) ∈ GW := gwt (i := 76) (by decide +kernel) (by decide +kernel)
theorem w77 : ((Jvm.Cond.fieldLink "EchoGorge$Reader" 181 "EchoGorge$Gorge" "window" "I") : Cond) ∈ GW := gwt (i := 77) (by decide +kernel) (by decide +kernel)
theorem w78 : ((Jvm.Cond.fieldLink "EchoGorge$Gorge" 76 "EchoGorge$Gorge" "margin" "I") : Cond) ∈ GW := gwt (i := 78) (by decide +kernel) (by decide +kernel)
theorem w79 : ((Jvm.Cond.fieldLink "EchoGorge$Hearing" 71 "EchoGorge$Gorge" "margin" "I") : Cond) ∈ GW := gwt (i := 79) (by decide +kernel) (by decide +kernel)
theorem w80 : ((Jvm.Cond.fieldLink "EchoGorge$Guess" 121 "EchoGorge$Gorge" "margin" "I") : Cond) ∈ GW := gwt (i := 80) (by decide +kernel) (by decide +kernel)
theorem w81 : ((Jvm.Cond.fieldLink "EchoGorge$Reader" 184 "EchoGorge$Gorge" "margin" "I") : Cond) ∈ GW := gwt (i := 81) (by decide +kernel) (by decide +kernel)
theorem w83 : ((Jvm.Cond.fieldLink "EchoGorge$Returns" 50 "EchoGorge$Gorge" "loud" "[I") : Cond) ∈ GW := gwt (i := 83) (by decide +kernel) (by decide +kernel)
theorem w84 : ((Jvm.Cond.fieldLink "EchoGorge$Guess" 120 "EchoGorge$Gorge" "loud" "[I") : Cond) ∈ GW := gwt (i := 84) (by decide +kernel) (by decide +kernel)
theorem w85 : ((Jvm.Cond.fieldLink "EchoGorge$Reader" 141 "EchoGorge$Gorge" "loud" "[I") : Cond) ∈ GW := gwt (i := 85) (by decide +kernel) (by decide +kernel)
theorem w86 : ((Jvm.Cond.fieldLink "EchoGorge$Gorge" 15 "EchoGorge$Gorge" "sort" "[I") : Cond) ∈ GW := gwt (i := 86) (by decide +kernel) (by decide +kernel)
theorem w87 : ((Jvm.Cond.fieldLink "EchoGorge$Reader" 145 "EchoGorge$Gorge" "sort" "[I") : Cond) ∈ GW := gwt (i := 87) (by decide +kernel) (by decide +kernel)
theorem w88 : ((Jvm.Cond.fieldLink "EchoGorge$Gorge" 18 "EchoGorge$Gorge" "sweet" "[I") : Cond) ∈ GW := gwt (i := 88) (by decide +kernel) (by decide +kernel)
theorem w89 : ((Jvm.Cond.fieldLink "EchoGorge$Chant" 71 "EchoGorge$Gorge" "sweet" "[I") : Cond) ∈ GW := gwt (i := 89) (by decide +kernel) (by decide +kernel)
theorem w90 : ((Jvm.Cond.fieldLink "EchoGorge$Reader" 190 "EchoGorge$Gorge" "sweet" "[I") : Cond) ∈ GW := gwt (i := 90) (by decide +kernel) (by decide +kernel)
theorem w92 : ((Jvm.Cond.fieldLink "EchoGorge$Returns" 71 "EchoGorge$Gorge" "delay" "[I") : Cond) ∈ GW := gwt (i := 92) (by decide +kernel) (by decide +kernel)
theorem w93 : ((Jvm.Cond.fieldLink "EchoGorge" 162 "EchoGorge$Gorge" "delay" "[I") : Cond) ∈ GW := gwt (i := 93) (by decide +kernel) (by decide +kernel)
theorem w94 : ((Jvm.Cond.fieldLink "EchoGorge$Reader" 154 "EchoGorge$Gorge" "delay" "[I") : Cond) ∈ GW := gwt (i := 94) (by decide +kernel) (by decide +kernel)
theorem w95 : ((Jvm.Cond.fieldLink "EchoGorge$Gorge" 24 "EchoGorge$Gorge" "share" "[I") : Cond) ∈ GW := gwt (i := 95) (by decide +kernel) (by decide +kernel)
theorem w96 : ((Jvm.Cond.fieldLink "EchoGorge" 165 "EchoGorge$Gorge" "share" "[I") : Cond) ∈ GW := gwt (i := 96) (by decide +kernel) (by decide +kernel)
theorem w97 : ((Jvm.Cond.fieldLink "EchoGorge$Reader" 157 "EchoGorge$Gorge" "share" "[I") : Cond) ∈ GW := gwt (i := 97) (by decide +kernel) (by decide +kernel)
theorem w98 : ((Jvm.Cond.fieldLink "EchoGorge$Gorge" 27 "EchoGorge$Gorge" "swallows" "[I") : Cond) ∈ GW := gwt (i := 98) (by decide +kernel) (by decide +kernel)
theorem w99 : ((Jvm.Cond.fieldLink "EchoGorge" 168 "EchoGorge$Gorge" "swallows" "[I") : Cond) ∈ GW := gwt (i := 99) (by decide +kernel) (by decide +kernel)
theorem w100 : ((Jvm.Cond.fieldLink "EchoGorge$Reader" 160 "EchoGorge$Gorge" "swallows" "[I") : Cond) ∈ GW := gwt (i := 100) (by decide +kernel) (by decide +kernel)
theorem w102 : ((Jvm.Cond.fieldLink "EchoGorge$Returns" 74 "EchoGorge$Gorge" "again" "[I") : Cond) ∈ GW := gwt (i := 102) (by decide +kernel) (by decide +kernel)
theorem w103 : ((Jvm.Cond.fieldLink "EchoGorge" 171 "EchoGorge$Gorge" "again" "[I") : Cond) ∈ GW := gwt (i := 103) (by decide +kernel) (by decide +kernel)
theorem w104 : ((Jvm.Cond.fieldLink "EchoGorge$Reader" 163 "EchoGorge$Gorge" "again" "[I") : Cond) ∈ GW := gwt (i := 104) (by decide +kernel) (by decide +kernel)
theorem w105 : ((Jvm.Cond.fieldLink "EchoGorge$Gorge" 33 "EchoGorge$Gorge" "straight" "[I") : Cond) ∈ GW := gwt (i := 105) (by decide +kernel) (by decide +kernel)
theorem w106 : ((Jvm.Cond.fieldLink "EchoGorge$Returns" 41 "EchoGorge$Gorge" "straight" "[I") : Cond) ∈ GW := gwt (i := 106) (by decide +kernel) (by decide +kernel)
theorem w107 : ((Jvm.Cond.fieldLink "EchoGorge$Reader" 174 "EchoGorge$Gorge" "straight" "[I") : Cond) ∈ GW := gwt (i := 107) (by decide +kernel) (by decide +kernel)
theorem w108 : ((Jvm.Cond.fieldLink "EchoGorge$Gorge" 36 "EchoGorge$Gorge" "air" "[I") : Cond) ∈ GW := gwt (i := 108) (by decide +kernel) (by decide +kernel)
theorem w109 : ((Jvm.Cond.fieldLink "EchoGorge$Guess" 33 "EchoGorge$Gorge" "air" "[I") : Cond) ∈ GW := gwt (i := 109) (by decide +kernel) (by decide +kernel)
theorem w110 : ((Jvm.Cond.fieldLink "EchoGorge$Verses" 129 "EchoGorge$Gorge" "air" "[I") : Cond) ∈ GW := gwt (i := 110) (by decide +kernel) (by decide +kernel)
theorem w111 : ((Jvm.Cond.fieldLink "EchoGorge" 197 "EchoGorge$Gorge" "air" "[I") : Cond) ∈ GW := gwt (i := 111) (by decide +kernel) (by decide +kernel)
theorem w112 : ((Jvm.Cond.fieldLink "EchoGorge$Reader" 176 "EchoGorge$Gorge" "air" "[I") : Cond) ∈ GW := gwt (i := 112) (by decide +kernel) (by decide +kernel)
theorem w114 : ((Jvm.Cond.fieldLink "EchoGorge$Verses" 56 "EchoGorge$Gorge" "kind" "[I") : Cond) ∈ GW := gwt (i := 114) (by decide +kernel) (by decide +kernel)
theorem w115 : ((Jvm.Cond.fieldLink "EchoGorge" 174 "EchoGorge$Gorge" "kind" "[I") : Cond) ∈ GW := gwt (i := 115) (by decide +kernel) (by decide +kernel)
theorem w116 : ((Jvm.Cond.fieldLink "EchoGorge$Reader" 195 "EchoGorge$Gorge" "kind" "[I") : Cond) ∈ GW := gwt (i := 116) (by decide +kernel) (by decide +kernel)
theorem w118 : ((Jvm.Cond.fieldLink "EchoGorge$Verses" 84 "EchoGorge$Gorge" "length" "[I") : Cond) ∈ GW := gwt (i := 118) (by decide +kernel) (by decide +kernel)
theorem w119 : ((Jvm.Cond.fieldLink "EchoGorge" 177 "EchoGorge$Gorge" "length" "[I") : Cond) ∈ GW := gwt (i := 119) (by decide +kernel) (by decide +kernel)
theorem w120 : ((Jvm.Cond.fieldLink "EchoGorge$Reader" 198 "EchoGorge$Gorge" "length" "[I") : Cond) ∈ GW := gwt (i := 120) (by decide +kernel) (by decide +kernel)
theorem w122 : ((Jvm.Cond.fieldLink "EchoGorge$Verses" 95 "EchoGorge$Gorge" "spelling" "[I") : Cond) ∈ GW := gwt (i := 122) (by decide +kernel) (by decide +kernel)
theorem w123 : ((Jvm.Cond.fieldLink "EchoGorge" 180 "EchoGorge$Gorge" "spelling" "[I") : Cond) ∈ GW := gwt (i := 123) (by decide +kernel) (by decide +kernel)
theorem w124 : ((Jvm.Cond.fieldLink "EchoGorge$Reader" 200 "EchoGorge$Gorge" "spelling" "[I") : Cond) ∈ GW := gwt (i := 124) (by decide +kernel) (by decide +kernel)
theorem w126 : ((Jvm.Cond.fieldLink "EchoGorge$Verses" 78 "EchoGorge$Gorge" "formLength" "[I") : Cond) ∈ GW := gwt (i := 126) (by decide +kernel) (by decide +kernel)
theorem w127 : ((Jvm.Cond.fieldLink "EchoGorge$Reader" 206 "EchoGorge$Gorge" "formLength" "[I") : Cond) ∈ GW := gwt (i := 127) (by decide +kernel) (by decide +kernel)
theorem w129 : ((Jvm.Cond.fieldLink "EchoGorge$Verses" 81 "EchoGorge$Gorge" "formKind" "[I") : Cond) ∈ GW := gwt (i := 129) (by decide +kernel) (by decide +kernel)
theorem w130 : ((Jvm.Cond.fieldLink "EchoGorge$Reader" 209 "EchoGorge$Gorge" "formKind" "[I") : Cond) ∈ GW := gwt (i := 130) (by decide +kernel) (by decide +kernel)
theorem w183 : ((Jvm.Cond.instanceMethod ⟨"EchoGorge$Scene","clear","()V"⟩) : Cond) ∈ GW := gwt (i := 183) (by decide +kernel) (by decide +kernel)
theorem w184 : ((Jvm.Cond.selects "EchoGorge$Scene" ⟨"EchoGorge$Scene","clear","()V"⟩ ⟨"EchoGorge$Scene","clear","()V"⟩) : Cond) ∈ GW := gwt (i := 184) (by decide +kernel) (by decide +kernel)
theorem w185 : ((Jvm.Cond.code ⟨"EchoGorge$Scene","clear","()V"⟩ prog_10_method_2_code 1 (Option.none : Option Jvm.ClassFile.FieldType)) : Cond) ∈ GW := gwt (i := 185) (by decide +kernel) (by decide +kernel)
theorem w186 : ((Jvm.Cond.methodLink "EchoGorge$Scene" 30 ⟨"EchoGorge$Scene","clearSaid","()V"⟩) : Cond) ∈ GW := gwt (i := 186) (by decide +kernel) (by decide +kernel)
theorem w187 : ((Jvm.Cond.instanceMethod ⟨"EchoGorge$Scene","clearSaid","()V"⟩) : Cond) ∈ GW := gwt (i := 187) (by decide +kernel) (by decide +kernel)
theorem w188 : ((Jvm.Cond.selects "EchoGorge$Scene" ⟨"EchoGorge$Scene","clearSaid","()V"⟩ ⟨"EchoGorge$Scene","clearSaid","()V"⟩) : Cond) ∈ GW := gwt (i := 188) (by decide +kernel) (by decide +kernel)
theorem w189 : ((Jvm.Cond.code ⟨"EchoGorge$Scene","clearSaid","()V"⟩ prog_10_method_3_code 1 (Option.none : Option Jvm.ClassFile.FieldType)) : Cond) ∈ GW := gwt (i := 189) (by decide +kernel) (by decide +kernel)
theorem w190 : ((Jvm.Cond.methodLink "EchoGorge$Scene" 36 ⟨"java/util/Arrays","fill","([II)V"⟩) : Cond) ∈ GW := gwt (i := 190) (by decide +kernel) (by decide +kernel)
theorem w191 : ((Jvm.Cond.methodLink "EchoGorge$Scene" 33 ⟨"EchoGorge$Scene","clearTold","()V"⟩) : Cond) ∈ GW := gwt (i := 191) (by decide +kernel) (by decide +kernel)
theorem w192 : ((Jvm.Cond.instanceMethod ⟨"EchoGorge$Scene","clearTold","()V"⟩) : Cond) ∈ GW := gwt (i := 192) (by decide +kernel) (by decide +kernel)
theorem w193 : ((Jvm.Cond.selects "EchoGorge$Scene" ⟨"EchoGorge$Scene","clearTold","()V"⟩ ⟨"EchoGorge$Scene","clearTold","()V"⟩) : Cond) ∈ GW := gwt (i := 193) (by decide +kernel) (by decide +kernel)
theorem w194 : ((Jvm.Cond.code ⟨"EchoGorge$Scene","clearTold","()V"⟩ prog_10_method_4_code 1 (Option.none : Option Jvm.ClassFile.FieldType)) : Cond) ∈ GW := gwt (i := 194) (by decide +kernel) (by decide +kernel)
theorem w195 : ((Jvm.Cond.fieldLink "EchoGorge$Scene" 9 "EchoGorge$Scene" "said" "[I") : Cond) ∈ GW := gwt (i := 195) (by decide +kernel) (by decide +kernel)
theorem w196 : ((Jvm.Cond.fieldLink "EchoGorge$Guess" 71 "EchoGorge$Scene" "said" "[I") : Cond) ∈ GW := gwt (i := 196) (by decide +kernel) (by decide +kernel)
theorem w197 : ((Jvm.Cond.fieldLink "EchoGorge" 204 "EchoGorge$Scene" "said" "[I") : Cond) ∈ GW := gwt (i := 197) (by decide +kernel) (by decide +kernel)
theorem w198 : ((Jvm.Cond.fieldLink "EchoGorge$Scene" 46 "EchoGorge$Scene" "saidMany" "I") : Cond) ∈ GW := gwt (i := 198) (by decide +kernel) (by decide +kernel)
theorem w199 : ((Jvm.Cond.fieldLink "EchoGorge" 147 "EchoGorge$Scene" "saidMany" "I") : Cond) ∈ GW := gwt (i := 199) (by decide +kernel) (by decide +kernel)
theorem w200 : ((Jvm.Cond.fieldLink "EchoGorge$Scene" 15 "EchoGorge$Scene" "told" "[I") : Cond) ∈ GW := gwt (i := 200) (by decide +kernel) (by decide +kernel)
theorem w201 : ((Jvm.Cond.fieldLink "EchoGorge$Truth" 51 "EchoGorge$Scene" "told" "[I") : Cond) ∈ GW := gwt (i := 201) (by decide +kernel) (by decide +kernel)
theorem w202 : ((Jvm.Cond.fieldLink "EchoGorge$Guess" 90 "EchoGorge$Scene" "told" "[I") : Cond) ∈ GW := gwt (i := 202) (by decide +kernel) (by decide +kernel)
theorem w203 : ((Jvm.Cond.fieldLink "EchoGorge" 270 "EchoGorge$Scene" "told" "[I") : Cond) ∈ GW := gwt (i := 203) (by decide +kernel) (by decide +kernel)
theorem w204 : ((Jvm.Cond.fieldLink "EchoGorge$Scene" 49 "EchoGorge$Scene" "toldMany" "I") : Cond) ∈ GW := gwt (i := 204) (by decide +kernel) (by decide +kernel)
theorem w205 : ((Jvm.Cond.fieldLink "EchoGorge" 150 "EchoGorge$Scene" "toldMany" "I") : Cond) ∈ GW := gwt (i := 205) (by decide +kernel) (by decide +kernel)
theorem w206 : ((Jvm.Cond.fieldLink "EchoGorge$Scene" 18 "EchoGorge$Scene" "round" "[I") : Cond) ∈ GW := gwt (i := 206) (by decide +kernel) (by decide +kernel)
theorem w207 : ((Jvm.Cond.fieldLink "EchoGorge$Chant" 53 "EchoGorge$Scene" "round" "[I") : Cond) ∈ GW := gwt (i := 207) (by decide +kernel) (by decide +kernel)
theorem w208 : ((Jvm.Cond.fieldLink "EchoGorge" 256 "EchoGorge$Scene" "round" "[I") : Cond) ∈ GW := gwt (i := 208) (by decide +kernel) (by decide +kernel)
theorem w209 : ((Jvm.Cond.fieldLink "EchoGorge$Scene" 42 "EchoGorge$Scene" "roundLength" "I") : Cond) ∈ GW := gwt (i := 209) (by decide +kernel) (by decide +kernel)
theorem w210 : ((Jvm.Cond.fieldLink "EchoGorge$Chant" 23 "EchoGorge$Scene" "roundLength" "I") : Cond) ∈ GW := gwt (i := 210) (by decide +kernel) (by decide +kernel)
theorem w211 : ((Jvm.Cond.fieldLink "EchoGorge" 259 "EchoGorge$Scene" "roundLength" "I") : Cond) ∈ GW := gwt (i := 211) (by decide +kernel) (by decide +kernel)
theorem w212 : ((Jvm.Cond.fieldLink "EchoGorge$Scene" 21 "EchoGorge$Scene" "earX" "[I") : Cond) ∈ GW := gwt (i := 212) (by decide +kernel) (by decide +kernel)
theorem w213 : ((Jvm.Cond.fieldLink "EchoGorge$Places" 29 "EchoGorge$Scene" "earX" "[I") : Cond) ∈ GW := gwt (i := 213) (by decide +kernel) (by decide +kernel)
theorem w214 : ((Jvm.Cond.fieldLink "EchoGorge" 290 "EchoGorge$Scene" "earX" "[I") : Cond) ∈ GW := gwt (i := 214) (by decide +kernel) (by decide +kernel)
theorem w215 : ((Jvm.Cond.fieldLink "EchoGorge$Scene" 24 "EchoGorge$Scene" "earY" "[I") : Cond) ∈ GW := gwt (i := 215) (by decide +kernel) (by decide +kernel)
theorem w216 : ((Jvm.Cond.fieldLink "EchoGorge$Places" 18 "EchoGorge$Scene" "earY" "[I") : Cond) ∈ GW := gwt (i := 216) (by decide +kernel) (by decide +kernel)
theorem w217 : ((Jvm.Cond.fieldLink "EchoGorge" 293 "EchoGorge$Scene" "earY" "[I") : Cond) ∈ GW := gwt (i := 217) (by decide +kernel) (by decide +kernel)
theorem w241 : ((Jvm.Cond.fieldLink "EchoGorge$Reader" 9 "EchoGorge$Reader" "text" "[B") : Cond) ∈ GW := gwt (i := 241) (by decide +kernel) (by decide +kernel)
theorem w242 : ((Jvm.Cond.fieldLink "EchoGorge$Reader" 21 "EchoGorge$Reader" "end" "I") : Cond) ∈ GW := gwt (i := 242) (by decide +kernel) (by decide +kernel)
theorem w243 : ((Jvm.Cond.fieldLink "EchoGorge$Reader" 25 "EchoGorge$Reader" "gorge" "LEchoGorge$Gorge;") : Cond) ∈ GW := gwt (i := 243) (by decide +kernel) (by decide +kernel)
theorem w244 : ((Jvm.Cond.fieldLink "EchoGorge$Reader" 56 "EchoGorge$Reader" "token" "I") : Cond) ∈ GW := gwt (i := 244) (by decide +kernel) (by decide +kernel)
theorem w245 : ((Jvm.Cond.fieldLink "EchoGorge$Reader" 63 "EchoGorge$Reader" "place" "I") : Cond) ∈ GW := gwt (i := 245) (by decide +kernel) (by decide +kernel)
theorem w246 : ((Jvm.Cond.fieldLink "EchoGorge$Reader" 34 "EchoGorge$Reader" "behind" "I") : Cond) ∈ GW := gwt (i := 246) (by decide +kernel) (by decide +kernel)
theorem w247 : ((Jvm.Cond.fieldLink "EchoGorge$Reader" 66 "EchoGorge$Reader" "value" "I") : Cond) ∈ GW := gwt (i := 247) (by decide +kernel) (by decide +kernel)
theorem w248 : ((Jvm.Cond.fieldLink "EchoGorge$Reader" 37 "EchoGorge$Reader" "airTold" "I") : Cond) ∈ GW := gwt (i := 248) (by decide +kernel) (by decide +kernel)
theorem w249 : ((Jvm.Cond.fieldLink "EchoGorge$Reader" 40 "EchoGorge$Reader" "straightTold" "Z") : Cond) ∈ GW := gwt (i := 249) (by decide +kernel) (by decide +kernel)
theorem w250 : ((Jvm.Cond.fieldLink "EchoGorge$Reader" 44 "EchoGorge$Reader" "maskTold" "Z") : Cond) ∈ GW := gwt (i := 250) (by decide +kernel) (by decide +kernel)
theorem w251 : ((Jvm.Cond.fieldLink "EchoGorge$Reader" 47 "EchoGorge$Reader" "fault" "I") : Cond) ∈ GW := gwt (i := 251) (by decide +kernel) (by decide +kernel)
theorem w252 : ((Jvm.Cond.fieldLink "EchoGorge$Reader" 50 "EchoGorge$Reader" "faultPlace" "I") : Cond) ∈ GW := gwt (i := 252) (by decide +kernel) (by decide +kernel)
theorem w253 : ((Jvm.Cond.fieldLink "EchoGorge" 122 "EchoGorge$Reader" "faultPlace" "I") : Cond) ∈ GW := gwt (i := 253) (by decide +kernel) (by decide +kernel)
theorem w285 : ((Jvm.Cond.fieldLink "EchoGorge$Returns" 11 "EchoGorge$Returns" "later" "[I") : Cond) ∈ GW := gwt (i := 285) (by decide +kernel) (by decide +kernel)
theorem w286 : ((Jvm.Cond.fieldLink "EchoGorge$Hearing" 47 "EchoGorge$Returns" "later" "[I") : Cond) ∈ GW := gwt (i := 286) (by decide +kernel) (by decide +kernel)
theorem w287 : ((Jvm.Cond.fieldLink "EchoGorge$Chant" 44 "EchoGorge$Returns" "later" "[I") : Cond) ∈ GW := gwt (i := 287) (by decide +kernel) (by decide +kernel)
theorem w288 : ((Jvm.Cond.fieldLink "EchoGorge$Returns" 15 "EchoGorge$Returns" "loud" "[I") : Cond) ∈ GW := gwt (i := 288) (by decide +kernel) (by decide +kernel)
theorem w289 : ((Jvm.Cond.fieldLink "EchoGorge$Hearing" 54 "EchoGorge$Returns" "loud" "[I") : Cond) ∈ GW := gwt (i := 289) (by decide +kernel) (by decide +kernel)
theorem w290 : ((Jvm.Cond.fieldLink "EchoGorge$Chant" 56 "EchoGorge$Returns" "loud" "[I") : Cond) ∈ GW := gwt (i := 290) (by decide +kernel) (by decide +kernel)
theorem w291 : ((Jvm.Cond.fieldLink "EchoGorge$Guess" 114 "EchoGorge$Returns" "loud" "[I") : Cond) ∈ GW := gwt (i := 291) (by decide +kernel) (by decide +kernel)
theorem w292 : ((Jvm.Cond.fieldLink "EchoGorge$Hearing" 42 "EchoGorge$Returns" "many" "I") : Cond) ∈ GW := gwt (i := 292) (by decide +kernel) (by decide +kernel)
theorem w293 : ((Jvm.Cond.fieldLink "EchoGorge$Returns" 38 "EchoGorge$Returns" "many" "I") : Cond) ∈ GW := gwt (i := 293) (by decide +kernel) (by decide +kernel)
theorem w294 : ((Jvm.Cond.fieldLink "EchoGorge$Chant" 39 "EchoGorge$Returns" "many" "I") : Cond) ∈ GW := gwt (i := 294) (by decide +kernel) (by decide +kernel)
theorem w295 : ((Jvm.Cond.fieldLink "EchoGorge$Returns" 18 "EchoGorge$Returns" "fading" "[I") : Cond) ∈ GW := gwt (i := 295) (by decide +kernel) (by decide +kernel)
theorem w296 : ((Jvm.Cond.fieldLink "EchoGorge$Returns" 21 "EchoGorge$Returns" "isBuilt" "Z") : Cond) ∈ GW := gwt (i := 296) (by decide +kernel) (by decide +kernel)
theorem w297 : ((Jvm.Cond.fieldLink "EchoGorge$Returns" 25 "EchoGorge$Returns" "builtEar" "I") : Cond) ∈ GW := gwt (i := 297) (by decide +kernel) (by decide +kernel)
theorem w298 : ((Jvm.Cond.fieldLink "EchoGorge$Returns" 29 "EchoGorge$Returns" "builtAir" "I") : Cond) ∈ GW := gwt (i := 298) (by decide +kernel) (by decide +kernel)
theorem w299 : ((Jvm.Cond.fieldLink "EchoGorge$Returns" 32 "EchoGorge$Returns" "builtFog" "I") : Cond) ∈ GW := gwt (i := 299) (by decide +kernel) (by decide +kernel)
theorem w300 : ((Jvm.Cond.fieldLink "EchoGorge$Returns" 35 "EchoGorge$Returns" "builtGone" "I") : Cond) ∈ GW := gwt (i := 300) (by decide +kernel) (by decide +kernel)
theorem w326 : ((Jvm.Cond.fieldLink "EchoGorge$Hearing" 9 "EchoGorge$Hearing" "best" "[I") : Cond) ∈ GW := gwt (i := 326) (by decide +kernel) (by decide +kernel)
theorem w327 : ((Jvm.Cond.fieldLink "EchoGorge$Hearing" 15 "EchoGorge$Hearing" "whose" "[I") : Cond) ∈ GW := gwt (i := 327) (by decide +kernel) (by decide +kernel)
theorem w328 : ((Jvm.Cond.fieldLink "EchoGorge$Hearing" 18 "EchoGorge$Hearing" "sum" "[I") : Cond) ∈ GW := gwt (i := 328) (by decide +kernel) (by decide +kernel)
theorem w329 : ((Jvm.Cond.fieldLink "EchoGorge$Hearing" 21 "EchoGorge$Hearing" "gorge" "LEchoGorge$Gorge;") : Cond) ∈ GW := gwt (i := 329) (by decide +kernel) (by decide +kernel)
theorem w330 : ((Jvm.Cond.fieldLink "EchoGorge$Hearing" 25 "EchoGorge$Hearing" "returns" "LEchoGorge$Returns;") : Cond) ∈ GW := gwt (i := 330) (by decide +kernel) (by decide +kernel)
theorem w331 : ((Jvm.Cond.fieldLink "EchoGorge$Hearing" 29 "EchoGorge$Hearing" "said" "[I") : Cond) ∈ GW := gwt (i := 331) (by decide +kernel) (by decide +kernel)
theorem w332 : ((Jvm.Cond.fieldLink "EchoGorge$Hearing" 32 "EchoGorge$Hearing" "last" "I") : Cond) ∈ GW := gwt (i := 332) (by decide +kernel) (by decide +kernel)
theorem w333 : ((Jvm.Cond.fieldLink "EchoGorge$Hearing" 36 "EchoGorge$Hearing" "low" "I") : Cond) ∈ GW := gwt (i := 333) (by decide +kernel) (by decide +kernel)
theorem w334 : ((Jvm.Cond.fieldLink "EchoGorge$Hearing" 39 "EchoGorge$Hearing" "high" "I") : Cond) ∈ GW := gwt (i := 334) (by decide +kernel) (by decide +kernel)
theorem w362 : ((Jvm.Cond.methodLink "EchoGorge$Verses" 46 ⟨"java/util/Arrays","fill","([II)V"⟩) : Cond) ∈ GW := gwt (i := 362) (by decide +kernel) (by decide +kernel)
theorem w363 : ((Jvm.Cond.fieldLink "EchoGorge$Verses" 14 "EchoGorge$Verses" "gorge" "LEchoGorge$Gorge;") : Cond) ∈ GW := gwt (i := 363) (by decide +kernel) (by decide +kernel)
theorem w364 : ((Jvm.Cond.fieldLink "EchoGorge$Verses" 59 "EchoGorge$Verses" "total" "I") : Cond) ∈ GW := gwt (i := 364) (by decide +kernel) (by decide +kernel)
theorem w365 : ((Jvm.Cond.fieldLink "EchoGorge" 153 "EchoGorge$Verses" "total" "I") : Cond) ∈ GW := gwt (i := 365) (by decide +kernel) (by decide +kernel)
theorem w366 : ((Jvm.Cond.fieldLink "EchoGorge$Verses" 62 "EchoGorge$Verses" "beginnings" "I") : Cond) ∈ GW := gwt (i := 366) (by decide +kernel) (by decide +kernel)
theorem w367 : ((Jvm.Cond.fieldLink "EchoGorge" 233 "EchoGorge$Verses" "beginnings" "I") : Cond) ∈ GW := gwt (i := 367) (by decide +kernel) (by decide +kernel)
theorem w368 : ((Jvm.Cond.fieldLink "EchoGorge$Verses" 65 "EchoGorge$Verses" "lengths" "I") : Cond) ∈ GW := gwt (i := 368) (by decide +kernel) (by decide +kernel)
theorem w369 : ((Jvm.Cond.fieldLink "EchoGorge$Verses" 75 "EchoGorge$Verses" "longest" "I") : Cond) ∈ GW := gwt (i := 369) (by decide +kernel) (by decide +kernel)
theorem w370 : ((Jvm.Cond.fieldLink "EchoGorge$Verses" 18 "EchoGorge$Verses" "kindMany" "[I") : Cond) ∈ GW := gwt (i := 370) (by decide +kernel) (by decide +kernel)
theorem w371 : ((Jvm.Cond.fieldLink "EchoGorge$Verses" 22 "EchoGorge$Verses" "ofKind" "[I") : Cond) ∈ GW := gwt (i := 371) (by decide +kernel) (by decide +kernel)
theorem w372 : ((Jvm.Cond.fieldLink "EchoGorge$Verses" 25 "EchoGorge$Verses" "formLines" "[I") : Cond) ∈ GW := gwt (i := 372) (by decide +kernel) (by decide +kernel)
theorem w373 : ((Jvm.Cond.fieldLink "EchoGorge$Verses" 28 "EchoGorge$Verses" "figures" "[I") : Cond) ∈ GW := gwt (i := 373) (by decide +kernel) (by decide +kernel)
theorem w374 : ((Jvm.Cond.fieldLink "EchoGorge$Verses" 31 "EchoGorge$Verses" "answers" "[I") : Cond) ∈ GW := gwt (i := 374) (by decide +kernel) (by decide +kernel)
theorem w375 : ((Jvm.Cond.fieldLink "EchoGorge$Verses" 34 "EchoGorge$Verses" "row" "[I") : Cond) ∈ GW := gwt (i := 375) (by decide +kernel) (by decide +kernel)
theorem w376 : ((Jvm.Cond.fieldLink "EchoGorge$Verses" 37 "EchoGorge$Verses" "said" "[I") : Cond) ∈ GW := gwt (i := 376) (by decide +kernel) (by decide +kernel)
theorem w377 : ((Jvm.Cond.fieldLink "EchoGorge$Verses" 93 "EchoGorge$Verses" "length" "I") : Cond) ∈ GW := gwt (i := 377) (by decide +kernel) (by decide +kernel)
theorem w378 : ((Jvm.Cond.fieldLink "EchoGorge$Verses" 40 "EchoGorge$Verses" "heard" "[I") : Cond) ∈ GW := gwt (i := 378) (by decide +kernel) (by decide +kernel)
theorem w379 : ((Jvm.Cond.fieldLink "EchoGorge$Verses" 98 "EchoGorge$Verses" "heardLength" "I") : Cond) ∈ GW := gwt (i := 379) (by decide +kernel) (by decide +kernel)
theorem w380 : ((Jvm.Cond.fieldLink "EchoGorge$Verses" 43 "EchoGorge$Verses" "fits" "[I") : Cond) ∈ GW := gwt (i := 380) (by decide +kernel) (by decide +kernel)
theorem w420 : ((Jvm.Cond.fieldLink "EchoGorge$Chant" 9 "EchoGorge$Chant" "sum" "[I") : Cond) ∈ GW := gwt (i := 420) (by decide +kernel) (by decide +kernel)
theorem w432 : ((Jvm.Cond.fieldLink "EchoGorge$Guess" 9 "EchoGorge$Guess" "answer" "[I") : Cond) ∈ GW := gwt (i := 432) (by decide +kernel) (by decide +kernel)
theorem w433 : ((Jvm.Cond.fieldLink "EchoGorge" 280 "EchoGorge$Guess" "answer" "[I") : Cond) ∈ GW := gwt (i := 433) (by decide +kernel) (by decide +kernel)
theorem w434 : ((Jvm.Cond.fieldLink "EchoGorge$Guess" 18 "EchoGorge$Guess" "returns" "LEchoGorge$Returns;") : Cond) ∈ GW := gwt (i := 434) (by decide +kernel) (by decide +kernel)
theorem w435 : ((Jvm.Cond.fieldLink "EchoGorge$Guess" 22 "EchoGorge$Guess" "isKnown" "Z") : Cond) ∈ GW := gwt (i := 435) (by decide +kernel) (by decide +kernel)
theorem w436 : ((Jvm.Cond.fieldLink "EchoGorge$Guess" 26 "EchoGorge$Guess" "knownShare" "I") : Cond) ∈ GW := gwt (i := 436) (by decide +kernel) (by decide +kernel)
theorem w437 : ((Jvm.Cond.fieldLink "EchoGorge$Guess" 98 "EchoGorge$Guess" "firstWalls" "I") : Cond) ∈ GW := gwt (i := 437) (by decide +kernel) (by decide +kernel)
theorem w438 : ((Jvm.Cond.fieldLink "EchoGorge$Guess" 30 "EchoGorge$Guess" "muffled" "I") : Cond) ∈ GW := gwt (i := 438) (by decide +kernel) (by decide +kernel)
theorem w439 : ((Jvm.Cond.fieldLink "EchoGorge$Guess" 104 "EchoGorge$Guess" "muffledRun" "I") : Cond) ∈ GW := gwt (i := 439) (by decide +kernel) (by decide +kernel)
theorem w440 : ((Jvm.Cond.fieldLink "EchoGorge$Guess" 101 "EchoGorge$Guess" "muffledKey" "I") : Cond) ∈ GW := gwt (i := 440) (by decide +kernel) (by decide +kernel)
theorem w464 : ((Jvm.Cond.fieldLink "EchoGorge$Truth" 9 "EchoGorge$Truth" "answer" "[I") : Cond) ∈ GW := gwt (i := 464) (by decide +kernel) (by decide +kernel)
theorem w465 : ((Jvm.Cond.fieldLink "EchoGorge" 286 "EchoGorge$Truth" "answer" "[I") : Cond) ∈ GW := gwt (i := 465) (by decide +kernel) (by decide +kernel)
theorem w466 : ((Jvm.Cond.fieldLink "EchoGorge$Truth" 21 "EchoGorge$Truth" "isKnown" "Z") : Cond) ∈ GW := gwt (i := 466) (by decide +kernel) (by decide +kernel)
theorem w467 : ((Jvm.Cond.fieldLink "EchoGorge$Truth" 15 "EchoGorge$Truth" "said" "[I") : Cond) ∈ GW := gwt (i := 467) (by decide +kernel) (by decide +kernel)
theorem w468 : ((Jvm.Cond.fieldLink "EchoGorge$Truth" 18 "EchoGorge$Truth" "spots" "[I") : Cond) ∈ GW := gwt (i := 468) (by decide +kernel) (by decide +kernel)
theorem w469 : ((Jvm.Cond.fieldLink "EchoGorge$Truth" 47 "EchoGorge$Truth" "many" "I") : Cond) ∈ GW := gwt (i := 469) (by decide +kernel) (by decide +kernel)
theorem w470 : ((Jvm.Cond.fieldLink "EchoGorge$Truth" 25 "EchoGorge$Truth" "gorge" "LEchoGorge$Gorge;") : Cond) ∈ GW := gwt (i := 470) (by decide +kernel) (by decide +kernel)
theorem w471 : ((Jvm.Cond.fieldLink "EchoGorge$Truth" 29 "EchoGorge$Truth" "scene" "LEchoGorge$Scene;") : Cond) ∈ GW := gwt (i := 471) (by decide +kernel) (by decide +kernel)
theorem w472 : ((Jvm.Cond.fieldLink "EchoGorge$Truth" 33 "EchoGorge$Truth" "hearing" "LEchoGorge$Hearing;") : Cond) ∈ GW := gwt (i := 472) (by decide +kernel) (by decide +kernel)
theorem w473 : ((Jvm.Cond.fieldLink "EchoGorge$Truth" 37 "EchoGorge$Truth" "returns" "LEchoGorge$Returns;") : Cond) ∈ GW := gwt (i := 473) (by decide +kernel) (by decide +kernel)
theorem w499 : ((Jvm.Cond.fieldLink "EchoGorge$Places" 9 "EchoGorge$Places" "ticks" "[I") : Cond) ∈ GW := gwt (i := 499) (by decide +kernel) (by decide +kernel)
theorem w500 : ((Jvm.Cond.fieldLink "EchoGorge$Places" 15 "EchoGorge$Places" "ahead" "[I") : Cond) ∈ GW := gwt (i := 500) (by decide +kernel) (by decide +kernel)
theorem w512 : ((Jvm.Cond.fieldLink "EchoGorge$Claps" 9 "EchoGorge$Claps" "together" "[I") : Cond) ∈ GW := gwt (i := 512) (by decide +kernel) (by decide +kernel)
theorem w513 : ((Jvm.Cond.fieldLink "EchoGorge" 315 "EchoGorge$Claps" "together" "[I") : Cond) ∈ GW := gwt (i := 513) (by decide +kernel) (by decide +kernel)
theorem w514 : ((Jvm.Cond.fieldLink "EchoGorge$Claps" 15 "EchoGorge$Claps" "said" "[I") : Cond) ∈ GW := gwt (i := 514) (by decide +kernel) (by decide +kernel)
theorem w515 : ((Jvm.Cond.fieldLink "EchoGorge$Claps" 42 "EchoGorge$Claps" "best" "I") : Cond) ∈ GW := gwt (i := 515) (by decide +kernel) (by decide +kernel)
theorem w516 : ((Jvm.Cond.fieldLink "EchoGorge$Claps" 46 "EchoGorge$Claps" "bestMany" "I") : Cond) ∈ GW := gwt (i := 516) (by decide +kernel) (by decide +kernel)
theorem w517 : ((Jvm.Cond.fieldLink "EchoGorge$Claps" 49 "EchoGorge$Claps" "bestSum" "I") : Cond) ∈ GW := gwt (i := 517) (by decide +kernel) (by decide +kernel)
theorem w529 : ((Jvm.Cond.fieldLink "EchoGorge" 9 "EchoGorge" "tape" "[B") : Cond) ∈ GW := gwt (i := 529) (by decide +kernel) (by decide +kernel)
theorem w530 : ((Jvm.Cond.fieldLink "EchoGorge" 13 "EchoGorge" "taped" "I") : Cond) ∈ GW := gwt (i := 530) (by decide +kernel) (by decide +kernel)
theorem w531 : ((Jvm.Cond.fieldLink "EchoGorge" 17 "EchoGorge" "faultPlace" "I") : Cond) ∈ GW := gwt (i := 531) (by decide +kernel) (by decide +kernel)
theorem w532 : ((Jvm.Cond.fieldLink "EchoGorge" 20 "EchoGorge" "refused" "[I") : Cond) ∈ GW := gwt (i := 532) (by decide +kernel) (by decide +kernel)
theorem w533 : ((Jvm.Cond.fieldLink "EchoGorge" 27 "EchoGorge" "now" "LEchoGorge$Gorge;") : Cond) ∈ GW := gwt (i := 533) (by decide +kernel) (by decide +kernel)
theorem w534 : ((Jvm.Cond.fieldLink "EchoGorge" 31 "EchoGorge" "spare" "LEchoGorge$Gorge;") : Cond) ∈ GW := gwt (i := 534) (by decide +kernel) (by decide +kernel)
theorem w535 : ((Jvm.Cond.fieldLink "EchoGorge" 37 "EchoGorge" "scene" "LEchoGorge$Scene;") : Cond) ∈ GW := gwt (i := 535) (by decide +kernel) (by decide +kernel)
theorem w536 : ((Jvm.Cond.fieldLink "EchoGorge" 41 "EchoGorge" "kept" "LEchoGorge$Scene;") : Cond) ∈ GW := gwt (i := 536) (by decide +kernel) (by decide +kernel)
theorem w537 : ((Jvm.Cond.fieldLink "EchoGorge" 44 "EchoGorge" "isKept" "Z") : Cond) ∈ GW := gwt (i := 537) (by decide +kernel) (by decide +kernel)
theorem w538 : ((Jvm.Cond.fieldLink "EchoGorge" 51 "EchoGorge" "reader" "LEchoGorge$Reader;") : Cond) ∈ GW := gwt (i := 538) (by decide +kernel) (by decide +kernel)
theorem w539 : ((Jvm.Cond.fieldLink "EchoGorge" 58 "EchoGorge" "returns" "LEchoGorge$Returns;") : Cond) ∈ GW := gwt (i := 539) (by decide +kernel) (by decide +kernel)
theorem w540 : ((Jvm.Cond.fieldLink "EchoGorge" 65 "EchoGorge" "hearing" "LEchoGorge$Hearing;") : Cond) ∈ GW := gwt (i := 540) (by decide +kernel) (by decide +kernel)
theorem w541 : ((Jvm.Cond.fieldLink "EchoGorge" 72 "EchoGorge" "verses" "LEchoGorge$Verses;") : Cond) ∈ GW := gwt (i := 541) (by decide +kernel) (by decide +kernel)
theorem w542 : ((Jvm.Cond.fieldLink "EchoGorge" 79 "EchoGorge" "chant" "LEchoGorge$Chant;") : Cond) ∈ GW := gwt (i := 542) (by decide +kernel) (by decide +kernel)
theorem w543 : ((Jvm.Cond.fieldLink "EchoGorge" 86 "EchoGorge" "guess" "LEchoGorge$Guess;") : Cond) ∈ GW := gwt (i := 543) (by decide +kernel) (by decide +kernel)
theorem w544 : ((Jvm.Cond.fieldLink "EchoGorge" 93 "EchoGorge" "truth" "LEchoGorge$Truth;") : Cond) ∈ GW := gwt (i := 544) (by decide +kernel) (by decide +kernel)
theorem w545 : ((Jvm.Cond.fieldLink "EchoGorge" 100 "EchoGorge" "places" "LEchoGorge$Places;") : Cond) ∈ GW := gwt (i := 545) (by decide +kernel) (by decide +kernel)
theorem w546 : ((Jvm.Cond.fieldLink "EchoGorge" 107 "EchoGorge" "claps" "LEchoGorge$Claps;") : Cond) ∈ GW := gwt (i := 546) (by decide +kernel) (by decide +kernel)
theorem w584 : ((Jvm.Cond.methodLink "EchoGorgeLaw" 86 ⟨"EchoGorge","feed","(IIIII)I"⟩) : Cond) ∈ GW := gwt (i := 584) (by decide +kernel) (by decide +kernel)
theorem w585 : ((Jvm.Cond.instanceMethod ⟨"EchoGorge","feed","(IIIII)I"⟩) : Cond) ∈ GW := gwt (i := 585) (by decide +kernel) (by decide +kernel)
theorem w586 : ((Jvm.Cond.selects "EchoGorge" ⟨"EchoGorge","feed","(IIIII)I"⟩ ⟨"EchoGorge","feed","(IIIII)I"⟩) : Cond) ∈ GW := gwt (i := 586) (by decide +kernel) (by decide +kernel)
theorem w587 : ((Jvm.Cond.code ⟨"EchoGorge","feed","(IIIII)I"⟩ prog_1_method_2_code 6 (Option.some Jvm.ClassFile.FieldType.int)) : Cond) ∈ GW := gwt (i := 587) (by decide +kernel) (by decide +kernel)
theorem w588 : ((Jvm.Cond.methodLink "EchoGorge" 111 ⟨"EchoGorge","tapeNumber","(I)V"⟩) : Cond) ∈ GW := gwt (i := 588) (by decide +kernel) (by decide +kernel)
theorem w590 : ((Jvm.Cond.instanceMethod ⟨"EchoGorge","tapeNumber","(I)V"⟩) : Cond) ∈ GW := gwt (i := 590) (by decide +kernel) (by decide +kernel)
theorem w591 : ((Jvm.Cond.code ⟨"EchoGorge","tapeNumber","(I)V"⟩ prog_1_method_3_code 3 (Option.none : Option Jvm.ClassFile.FieldType)) : Cond) ∈ GW := gwt (i := 591) (by decide +kernel) (by decide +kernel)
theorem w592 : ((Jvm.Cond.methodLink "EchoGorgeLaw" 100 ⟨"EchoGorge","fault","()I"⟩) : Cond) ∈ GW := gwt (i := 592) (by decide +kernel) (by decide +kernel)
theorem w593 : ((Jvm.Cond.instanceMethod ⟨"EchoGorge","fault","()I"⟩) : Cond) ∈ GW := gwt (i := 593) (by decide +kernel) (by decide +kernel)
theorem w594 : ((Jvm.Cond.selects "EchoGorge" ⟨"EchoGorge","fault","()I"⟩ ⟨"EchoGorge","fault","()I"⟩) : Cond) ∈ GW := gwt (i := 594) (by decide +kernel) (by decide +kernel)
theorem w595 : ((Jvm.Cond.code ⟨"EchoGorge","fault","()I"⟩ prog_1_method_5_code 1 (Option.some Jvm.ClassFile.FieldType.int)) : Cond) ∈ GW := gwt (i := 595) (by decide +kernel) (by decide +kernel)
theorem w596 : ((Jvm.Cond.methodLink "EchoGorgeLaw" 117 ⟨"EchoGorge","hush","()I"⟩) : Cond) ∈ GW := gwt (i := 596) (by decide +kernel) (by decide +kernel)
theorem w597 : ((Jvm.Cond.instanceMethod ⟨"EchoGorge","hush","()I"⟩) : Cond) ∈ GW := gwt (i := 597) (by decide +kernel) (by decide +kernel)
theorem w598 : ((Jvm.Cond.selects "EchoGorge" ⟨"EchoGorge","hush","()I"⟩ ⟨"EchoGorge","hush","()I"⟩) : Cond) ∈ GW := gwt (i := 598) (by decide +kernel) (by decide +kernel)
theorem w599 : ((Jvm.Cond.code ⟨"EchoGorge","hush","()I"⟩ prog_1_method_10_code 2 (Option.some Jvm.ClassFile.FieldType.int)) : Cond) ∈ GW := gwt (i := 599) (by decide +kernel) (by decide +kernel)
theorem w600 : ((Jvm.Cond.methodLink "EchoGorge" 190 ⟨"EchoGorge$Scene","clearSaid","()V"⟩) : Cond) ∈ GW := gwt (i := 600) (by decide +kernel) (by decide +kernel)
theorem w601 : ((Jvm.Cond.methodLink "EchoGorge" 133 ⟨"EchoGorge$Guess","forget","()V"⟩) : Cond) ∈ GW := gwt (i := 601) (by decide +kernel) (by decide +kernel)
theorem w602 : ((Jvm.Cond.instanceMethod ⟨"EchoGorge$Guess","forget","()V"⟩) : Cond) ∈ GW := gwt (i := 602) (by decide +kernel) (by decide +kernel)
theorem w603 : ((Jvm.Cond.selects "EchoGorge$Guess" ⟨"EchoGorge$Guess","forget","()V"⟩ ⟨"EchoGorge$Guess","forget","()V"⟩) : Cond) ∈ GW := gwt (i := 603) (by decide +kernel) (by decide +kernel)
theorem w604 : ((Jvm.Cond.code ⟨"EchoGorge$Guess","forget","()V"⟩ prog_5_method_2_code 1 (Option.none : Option Jvm.ClassFile.FieldType)) : Cond) ∈ GW := gwt (i := 604) (by decide +kernel) (by decide +kernel)
theorem w605 : ((Jvm.Cond.methodLink "EchoGorgeLaw" 153 ⟨"EchoGorge","untell","()I"⟩) : Cond) ∈ GW := gwt (i := 605) (by decide +kernel) (by decide +kernel)
theorem w606 : ((Jvm.Cond.instanceMethod ⟨"EchoGorge","untell","()I"⟩) : Cond) ∈ GW := gwt (i := 606) (by decide +kernel) (by decide +kernel)
theorem w607 : ((Jvm.Cond.selects "EchoGorge" ⟨"EchoGorge","untell","()I"⟩ ⟨"EchoGorge","untell","()I"⟩) : Cond) ∈ GW := gwt (i := 607) (by decide +kernel) (by decide +kernel)
theorem w608 : ((Jvm.Cond.code ⟨"EchoGorge","untell","()I"⟩ prog_1_method_21_code 2 (Option.some Jvm.ClassFile.FieldType.int)) : Cond) ∈ GW := gwt (i := 608) (by decide +kernel) (by decide +kernel)
theorem w609 : ((Jvm.Cond.methodLink "EchoGorge" 273 ⟨"EchoGorge$Scene","clearTold","()V"⟩) : Cond) ∈ GW := gwt (i := 609) (by decide +kernel) (by decide +kernel)
theorem w610 : ((Jvm.Cond.methodLink "EchoGorge" 134 ⟨"EchoGorge$Truth","forget","()V"⟩) : Cond) ∈ GW := gwt (i := 610) (by decide +kernel) (by decide +kernel)
theorem w611 : ((Jvm.Cond.instanceMethod ⟨"EchoGorge$Truth","forget","()V"⟩) : Cond) ∈ GW := gwt (i := 611) (by decide +kernel) (by decide +kernel)
theorem w612 : ((Jvm.Cond.selects "EchoGorge$Truth" ⟨"EchoGorge$Truth","forget","()V"⟩ ⟨"EchoGorge$Truth","forget","()V"⟩) : Cond) ∈ GW := gwt (i := 612) (by decide +kernel) (by decide +kernel)
theorem w613 : ((Jvm.Cond.code ⟨"EchoGorge$Truth","forget","()V"⟩ prog_11_method_2_code 1 (Option.none : Option Jvm.ClassFile.FieldType)) : Cond) ∈ GW := gwt (i := 613) (by decide +kernel) (by decide +kernel)
theorem w614 : ((Jvm.Cond.methodLink "EchoGorgeLaw" 176 ⟨"EchoGorge","image","()V"⟩) : Cond) ∈ GW := gwt (i := 614) (by decide +kernel) (by decide +kernel)
theorem w615 : ((Jvm.Cond.instanceMethod ⟨"EchoGorge","image","()V"⟩) : Cond) ∈ GW := gwt (i := 615) (by decide +kernel) (by decide +kernel)
theorem w616 : ((Jvm.Cond.selects "EchoGorge" ⟨"EchoGorge","image","()V"⟩ ⟨"EchoGorge","image","()V"⟩) : Cond) ∈ GW := gwt (i := 616) (by decide +kernel) (by decide +kernel)
theorem w617 : ((Jvm.Cond.code ⟨"EchoGorge","image","()V"⟩ prog_1_method_28_code 1 (Option.none : Option Jvm.ClassFile.FieldType)) : Cond) ∈ GW := gwt (i := 617) (by decide +kernel) (by decide +kernel)
theorem w618 : ((Jvm.Cond.methodLink "EchoGorge" 327 ⟨"EchoGorge$Scene","copy","(LEchoGorge$Scene;)V"⟩) : Cond) ∈ GW := gwt (i := 618) (by decide +kernel) (by decide +kernel)
theorem w619 : ((Jvm.Cond.instanceMethod ⟨"EchoGorge$Scene","copy","(LEchoGorge$Scene;)V"⟩) : Cond) ∈ GW := gwt (i := 619) (by decide +kernel) (by decide +kernel)
theorem w620 : ((Jvm.Cond.selects "EchoGorge$Scene" ⟨"EchoGorge$Scene","copy","(LEchoGorge$Scene;)V"⟩ ⟨"EchoGorge$Scene","copy","(LEchoGorge$Scene;)V"⟩) : Cond) ∈ GW := gwt (i := 620) (by decide +kernel) (by decide +kernel)
theorem w621 : ((Jvm.Cond.code ⟨"EchoGorge$Scene","copy","(LEchoGorge$Scene;)V"⟩ prog_10_method_6_code 2 (Option.none : Option Jvm.ClassFile.FieldType)) : Cond) ∈ GW := gwt (i := 621) (by decide +kernel) (by decide +kernel)
theorem w622 : ((Jvm.Cond.methodLink "EchoGorge$Scene" 52 ⟨"java/lang/System","arraycopy","(Ljava/lang/Object;ILjava/lang/Object;II)V"⟩) : Cond) ∈ GW := gwt (i := 622) (by decide +kernel) (by decide +kernel)
theorem w623 : ((Jvm.Cond.static ⟨"java/lang/System","arraycopy","(Ljava/lang/Object;ILjava/lang/Object;II)V"⟩) : Cond) ∈ GW := gwt (i := 623) (by decide +kernel) (by decide +kernel)
theorem w624 : ((Jvm.Cond.native ⟨"java/lang/System","arraycopy","(Ljava/lang/Object;ILjava/lang/Object;II)V"⟩) : Cond) ∈ GW := gwt (i := 624) (by decide +kernel) (by decide +kernel)
theorem w625 : ((Jvm.Cond.methodLink "EchoGorgeLaw" 180 ⟨"EchoGorge","restore","()Z"⟩) : Cond) ∈ GW := gwt (i := 625) (by decide +kernel) (by decide +kernel)
theorem w626 : ((Jvm.Cond.instanceMethod ⟨"EchoGorge","restore","()Z"⟩) : Cond) ∈ GW := gwt (i := 626) (by decide +kernel) (by decide +kernel)
theorem w627 : ((Jvm.Cond.selects "EchoGorge" ⟨"EchoGorge","restore","()Z"⟩ ⟨"EchoGorge","restore","()Z"⟩) : Cond) ∈ GW := gwt (i := 627) (by decide +kernel) (by decide +kernel)
theorem w628 : ((Jvm.Cond.code ⟨"EchoGorge","restore","()Z"⟩ prog_1_method_29_code 1 (Option.some Jvm.ClassFile.FieldType.boolean)) : Cond) ∈ GW := gwt (i := 628) (by decide +kernel) (by decide +kernel)
theorem w629 : ((Jvm.Cond.methodLink "EchoGorgeLaw" 90 ⟨"EchoGorgeLaw","gorge","(LEchoGorge;I[J)I"⟩) : Cond) ∈ GW := gwt (i := 629) (by decide +kernel) (by decide +kernel)
theorem w630 : ((Jvm.Cond.static ⟨"EchoGorgeLaw","gorge","(LEchoGorge;I[J)I"⟩) : Cond) ∈ GW := gwt (i := 630) (by decide +kernel) (by decide +kernel)
theorem w631 : ((Jvm.Cond.codeWith ⟨"EchoGorgeLaw","gorge","(LEchoGorge;I[J)I"⟩ method_3_code 4 (Option.some Jvm.ClassFile.FieldType.int) [(0, 9, 12, 13)]) : Cond) ∈ GW := gwt (i := 631) (by decide +kernel) (by decide +kernel)
theorem w633 : ((Jvm.Cond.methodLink "EchoGorgeLaw" 7 ⟨"EchoGorge","gorge","(I)I"⟩) : Cond) ∈ GW := gwt (i := 633) (by decide +kernel) (by decide +kernel)
theorem w634 : ((Jvm.Cond.instanceMethod ⟨"EchoGorge","gorge","(I)I"⟩) : Cond) ∈ GW := gwt (i := 634) (by decide +kernel) (by decide +kernel)
theorem w635 : ((Jvm.Cond.selects "EchoGorge" ⟨"EchoGorge","gorge","(I)I"⟩ ⟨"EchoGorge","gorge","(I)I"⟩) : Cond) ∈ GW := gwt (i := 635) (by decide +kernel) (by decide +kernel)
theorem w636 : ((Jvm.Cond.code ⟨"EchoGorge","gorge","(I)I"⟩ prog_1_method_4_code 4 (Option.some Jvm.ClassFile.FieldType.int)) : Cond) ∈ GW := gwt (i := 636) (by decide +kernel) (by decide +kernel)
theorem w637 : ((Jvm.Cond.classLink "EchoGorge" 115 "java/lang/IllegalArgumentException") : Cond) ∈ GW := gwt (i := 637) (by decide +kernel) (by decide +kernel)
theorem w699 : ((Jvm.Cond.methodLink "EchoGorge" 118 ⟨"EchoGorge$Reader","read","([BILEchoGorge$Gorge;)I"⟩) : Cond) ∈ GW := gwt (i := 699) (by decide +kernel) (by decide +kernel)
theorem w700 : ((Jvm.Cond.instanceMethod ⟨"EchoGorge$Reader","read","([BILEchoGorge$Gorge;)I"⟩) : Cond) ∈ GW := gwt (i := 700) (by decide +kernel) (by decide +kernel)
theorem w701 : ((Jvm.Cond.selects "EchoGorge$Reader" ⟨"EchoGorge$Reader","read","([BILEchoGorge$Gorge;)I"⟩ ⟨"EchoGorge$Reader","read","([BILEchoGorge$Gorge;)I"⟩) : Cond) ∈ GW := gwt (i := 701) (by decide +kernel) (by decide +kernel)
theorem w702 : ((Jvm.Cond.code ⟨"EchoGorge$Reader","read","([BILEchoGorge$Gorge;)I"⟩ prog_8_method_2_code 6 (Option.some Jvm.ClassFile.FieldType.int)) : Cond) ∈ GW := gwt (i := 702) (by decide +kernel) (by decide +kernel)
theorem w703 : ((Jvm.Cond.methodLink "EchoGorge$Reader" 15 ⟨"java/lang/Math","min","(II)I"⟩) : Cond) ∈ GW := gwt (i := 703) (by decide +kernel) (by decide +kernel)
theorem w704 : ((Jvm.Cond.static ⟨"java/lang/Math","min","(II)I"⟩) : Cond) ∈ GW := gwt (i := 704) (by decide +kernel) (by decide +kernel)
theorem w705 : (Cond.code Lib.Math.min.name Lib.Math.min.code 2 (some .int) : Cond) ∈ GW := gwt (i := 705) (by decide +kernel) (by decide +kernel)
theorem w706 : ((Jvm.Cond.methodLink "EchoGorge$Reader" 29 ⟨"EchoGorge$Gorge","clear","()V"⟩) : Cond) ∈ GW := gwt (i := 706) (by decide +kernel) (by decide +kernel)
theorem w707 : ((Jvm.Cond.methodLink "EchoGorge$Reader" 53 ⟨"EchoGorge$Reader","step","()V"⟩) : Cond) ∈ GW := gwt (i := 707) (by decide +kernel) (by decide +kernel)
theorem w709 : ((Jvm.Cond.instanceMethod ⟨"EchoGorge$Reader","step","()V"⟩) : Cond) ∈ GW := gwt (i := 709) (by decide +kernel) (by decide +kernel)
theorem w710 : ((Jvm.Cond.code ⟨"EchoGorge$Reader","step","()V"⟩ prog_8_method_4_code 1 (Option.none : Option Jvm.ClassFile.FieldType)) : Cond) ∈ GW := gwt (i := 710) (by decide +kernel) (by decide +kernel)
theorem w711 : ((Jvm.Cond.methodLink "EchoGorge$Reader" 69 ⟨"EchoGorge$Reader","isLetter","(B)Z"⟩) : Cond) ∈ GW := gwt (i := 711) (by decide +kernel) (by decide +kernel)
theorem w712 : ((Jvm.Cond.static ⟨"EchoGorge$Reader","isLetter","(B)Z"⟩) : Cond) ∈ GW := gwt (i := 712) (by decide +kernel) (by decide +kernel)
theorem w713 : ((Jvm.Cond.code ⟨"EchoGorge$Reader","isLetter","(B)Z"⟩ prog_8_method_5_code 1 (Option.some Jvm.ClassFile.FieldType.boolean)) : Cond) ∈ GW := gwt (i := 713) (by decide +kernel) (by decide +kernel)
theorem w714 : ((Jvm.Cond.methodLink "EchoGorge$Reader" 73 ⟨"EchoGorge$Reader","isDigit","(B)Z"⟩) : Cond) ∈ GW := gwt (i := 714) (by decide +kernel) (by decide +kernel)
theorem w715 : ((Jvm.Cond.static ⟨"EchoGorge$Reader","isDigit","(B)Z"⟩) : Cond) ∈ GW := gwt (i := 715) (by decide +kernel) (by decide +kernel)
theorem w716 : ((Jvm.Cond.code ⟨"EchoGorge$Reader","isDigit","(B)Z"⟩ prog_8_method_6_code 1 (Option.some Jvm.ClassFile.FieldType.boolean)) : Cond) ∈ GW := gwt (i := 716) (by decide +kernel) (by decide +kernel)
theorem w717 : ((Jvm.Cond.methodLink "EchoGorge$Reader" 59 ⟨"EchoGorge$Reader","readLine","()Z"⟩) : Cond) ∈ GW := gwt (i := 717) (by decide +kernel) (by decide +kernel)
theorem w719 : ((Jvm.Cond.instanceMethod ⟨"EchoGorge$Reader","readLine","()Z"⟩) : Cond) ∈ GW := gwt (i := 719) (by decide +kernel) (by decide +kernel)
theorem w720 : ((Jvm.Cond.code ⟨"EchoGorge$Reader","readLine","()Z"⟩ prog_8_method_10_code 1 (Option.some Jvm.ClassFile.FieldType.boolean)) : Cond) ∈ GW := gwt (i := 720) (by decide +kernel) (by decide +kernel)
theorem w722 : ((Jvm.Cond.methodLink "EchoGorge$Reader" 99 ⟨"EchoGorge$Reader","spells","(Ljava/lang/String;)Z"⟩) : Cond) ∈ GW := gwt (i := 722) (by decide +kernel) (by decide +kernel)
theorem w724 : ((Jvm.Cond.instanceMethod ⟨"EchoGorge$Reader","spells","(Ljava/lang/String;)Z"⟩) : Cond) ∈ GW := gwt (i := 724) (by decide +kernel) (by decide +kernel)
theorem w725 : ((Jvm.Cond.code ⟨"EchoGorge$Reader","spells","(Ljava/lang/String;)Z"⟩ prog_8_method_7_code 3 (Option.some Jvm.ClassFile.FieldType.boolean)) : Cond) ∈ GW := gwt (i := 725) (by decide +kernel) (by decide +kernel)
theorem w726 : ((Jvm.Cond.methodLink "EchoGorge$Reader" 76 ⟨"java/lang/String","length","()I"⟩) : Cond) ∈ GW := gwt (i := 726) (by decide +kernel) (by decide +kernel)
theorem w727 : ((Jvm.Cond.instanceMethod ⟨"java/lang/String","length","()I"⟩) : Cond) ∈ GW := gwt (i := 727) (by decide +kernel) (by decide +kernel)
theorem w728 : ((Jvm.Cond.selects "java/lang/String" ⟨"java/lang/String","length","()I"⟩ ⟨"java/lang/String","length","()I"⟩) : Cond) ∈ GW := gwt (i := 728) (by decide +kernel) (by decide +kernel)
theorem w729 : ((Jvm.Cond.code ⟨"java/lang/String","length","()I"⟩ prog_23_method_54_code 1 (Option.some Jvm.ClassFile.FieldType.int)) : Cond) ∈ GW := gwt (i := 729) (by decide +kernel) (by decide +kernel)
theorem w736 : ((Jvm.Cond.methodLink "EchoGorge$Reader" 82 ⟨"java/lang/String","charAt","(I)C"⟩) : Cond) ∈ GW := gwt (i := 736) (by decide +kernel) (by decide +kernel)
theorem w737 : ((Jvm.Cond.instanceMethod ⟨"java/lang/String","charAt","(I)C"⟩) : Cond) ∈ GW := gwt (i := 737) (by decide +kernel) (by decide +kernel)
theorem w738 : ((Jvm.Cond.selects "java/lang/String" ⟨"java/lang/String","charAt","(I)C"⟩ ⟨"java/lang/String","charAt","(I)C"⟩) : Cond) ∈ GW := gwt (i := 738) (by decide +kernel) (by decide +kernel)
theorem w739 : ((Jvm.Cond.code ⟨"java/lang/String","charAt","(I)C"⟩ prog_23_method_56_code 2 (Option.some Jvm.ClassFile.FieldType.char)) : Cond) ∈ GW := gwt (i := 739) (by decide +kernel) (by decide +kernel)
theorem w774 : ((Jvm.Cond.methodLink "EchoGorge$Reader" 103 ⟨"EchoGorge$Reader","readSound","()Z"⟩) : Cond) ∈ GW := gwt (i := 774) (by decide +kernel) (by decide +kernel)
theorem w776 : ((Jvm.Cond.instanceMethod ⟨"EchoGorge$Reader","readSound","()Z"⟩) : Cond) ∈ GW := gwt (i := 776) (by decide +kernel) (by decide +kernel)
theorem w777 : ((Jvm.Cond.code ⟨"EchoGorge$Reader","readSound","()Z"⟩ prog_8_method_12_code 2 (Option.some Jvm.ClassFile.FieldType.boolean)) : Cond) ∈ GW := gwt (i := 777) (by decide +kernel) (by decide +kernel)
theorem w778 : ((Jvm.Cond.methodLink "EchoGorge$Reader" 86 ⟨"EchoGorge$Reader","fail","(I)Z"⟩) : Cond) ∈ GW := gwt (i := 778) (by decide +kernel) (by decide +kernel)
theorem w780 : ((Jvm.Cond.instanceMethod ⟨"EchoGorge$Reader","fail","(I)Z"⟩) : Cond) ∈ GW := gwt (i := 780) (by decide +kernel) (by decide +kernel)
theorem w781 : ((Jvm.Cond.code ⟨"EchoGorge$Reader","fail","(I)Z"⟩ prog_8_method_3_code 2 (Option.some Jvm.ClassFile.FieldType.boolean)) : Cond) ∈ GW := gwt (i := 781) (by decide +kernel) (by decide +kernel)
theorem w782 : ((Jvm.Cond.methodLink "EchoGorge$Reader" 90 ⟨"EchoGorge$Reader","isNumber","(II)Z"⟩) : Cond) ∈ GW := gwt (i := 782) (by decide +kernel) (by decide +kernel)
theorem w784 : ((Jvm.Cond.instanceMethod ⟨"EchoGorge$Reader","isNumber","(II)Z"⟩) : Cond) ∈ GW := gwt (i := 784) (by decide +kernel) (by decide +kernel)
theorem w785 : ((Jvm.Cond.code ⟨"EchoGorge$Reader","isNumber","(II)Z"⟩ prog_8_method_8_code 3 (Option.some Jvm.ClassFile.FieldType.boolean)) : Cond) ∈ GW := gwt (i := 785) (by decide +kernel) (by decide +kernel)
theorem w786 : ((Jvm.Cond.methodLink "EchoGorge$Reader" 148 ⟨"EchoGorge$Reader","readEnd","()Z"⟩) : Cond) ∈ GW := gwt (i := 786) (by decide +kernel) (by decide +kernel)
theorem w788 : ((Jvm.Cond.instanceMethod ⟨"EchoGorge$Reader","readEnd","()Z"⟩) : Cond) ∈ GW := gwt (i := 788) (by decide +kernel) (by decide +kernel)
theorem w789 : ((Jvm.Cond.code ⟨"EchoGorge$Reader","readEnd","()Z"⟩ prog_8_method_11_code 1 (Option.some Jvm.ClassFile.FieldType.boolean)) : Cond) ∈ GW := gwt (i := 789) (by decide +kernel) (by decide +kernel)
theorem w791 : ((Jvm.Cond.methodLink "EchoGorge$Reader" 108 ⟨"EchoGorge$Reader","readWall","()Z"⟩) : Cond) ∈ GW := gwt (i := 791) (by decide +kernel) (by decide +kernel)
theorem w793 : ((Jvm.Cond.instanceMethod ⟨"EchoGorge$Reader","readWall","()Z"⟩) : Cond) ∈ GW := gwt (i := 793) (by decide +kernel) (by decide +kernel)
theorem w794 : ((Jvm.Cond.code ⟨"EchoGorge$Reader","readWall","()Z"⟩ prog_8_method_13_code 3 (Option.some Jvm.ClassFile.FieldType.boolean)) : Cond) ∈ GW := gwt (i := 794) (by decide +kernel) (by decide +kernel)
theorem w796 : ((Jvm.Cond.methodLink "EchoGorge$Reader" 167 ⟨"EchoGorge$Reader","readSwallows","(I)Z"⟩) : Cond) ∈ GW := gwt (i := 796) (by decide +kernel) (by decide +kernel)
theorem w798 : ((Jvm.Cond.instanceMethod ⟨"EchoGorge$Reader","readSwallows","(I)Z"⟩) : Cond) ∈ GW := gwt (i := 798) (by decide +kernel) (by decide +kernel)
theorem w799 : ((Jvm.Cond.code ⟨"EchoGorge$Reader","readSwallows","(I)Z"⟩ prog_8_method_14_code 3 (Option.some Jvm.ClassFile.FieldType.boolean)) : Cond) ∈ GW := gwt (i := 799) (by decide +kernel) (by decide +kernel)
theorem w801 : ((Jvm.Cond.methodLink "EchoGorge$Reader" 171 ⟨"EchoGorge$Reader","readAgain","(I)Z"⟩) : Cond) ∈ GW := gwt (i := 801) (by decide +kernel) (by decide +kernel)
theorem w803 : ((Jvm.Cond.instanceMethod ⟨"EchoGorge$Reader","readAgain","(I)Z"⟩) : Cond) ∈ GW := gwt (i := 803) (by decide +kernel) (by decide +kernel)
theorem w804 : ((Jvm.Cond.code ⟨"EchoGorge$Reader","readAgain","(I)Z"⟩ prog_8_method_15_code 2 (Option.some Jvm.ClassFile.FieldType.boolean)) : Cond) ∈ GW := gwt (i := 804) (by decide +kernel) (by decide +kernel)
theorem w806 : ((Jvm.Cond.methodLink "EchoGorge$Reader" 113 ⟨"EchoGorge$Reader","readStraight","()Z"⟩) : Cond) ∈ GW := gwt (i := 806) (by decide +kernel) (by decide +kernel)
theorem w808 : ((Jvm.Cond.instanceMethod ⟨"EchoGorge$Reader","readStraight","()Z"⟩) : Cond) ∈ GW := gwt (i := 808) (by decide +kernel) (by decide +kernel)
theorem w809 : ((Jvm.Cond.code ⟨"EchoGorge$Reader","readStraight","()Z"⟩ prog_8_method_16_code 2 (Option.some Jvm.ClassFile.FieldType.boolean)) : Cond) ∈ GW := gwt (i := 809) (by decide +kernel) (by decide +kernel)
theorem w811 : ((Jvm.Cond.methodLink "EchoGorge$Reader" 118 ⟨"EchoGorge$Reader","readAir","()Z"⟩) : Cond) ∈ GW := gwt (i := 811) (by decide +kernel) (by decide +kernel)
theorem w813 : ((Jvm.Cond.instanceMethod ⟨"EchoGorge$Reader","readAir","()Z"⟩) : Cond) ∈ GW := gwt (i := 813) (by decide +kernel) (by decide +kernel)
theorem w814 : ((Jvm.Cond.code ⟨"EchoGorge$Reader","readAir","()Z"⟩ prog_8_method_17_code 2 (Option.some Jvm.ClassFile.FieldType.boolean)) : Cond) ∈ GW := gwt (i := 814) (by decide +kernel) (by decide +kernel)
theorem w816 : ((Jvm.Cond.methodLink "EchoGorge$Reader" 123 ⟨"EchoGorge$Reader","readMask","()Z"⟩) : Cond) ∈ GW := gwt (i := 816) (by decide +kernel) (by decide +kernel)
theorem w818 : ((Jvm.Cond.instanceMethod ⟨"EchoGorge$Reader","readMask","()Z"⟩) : Cond) ∈ GW := gwt (i := 818) (by decide +kernel) (by decide +kernel)
theorem w819 : ((Jvm.Cond.code ⟨"EchoGorge$Reader","readMask","()Z"⟩ prog_8_method_18_code 1 (Option.some Jvm.ClassFile.FieldType.boolean)) : Cond) ∈ GW := gwt (i := 819) (by decide +kernel) (by decide +kernel)
theorem w821 : ((Jvm.Cond.methodLink "EchoGorge$Reader" 128 ⟨"EchoGorge$Reader","readSweet","()Z"⟩) : Cond) ∈ GW := gwt (i := 821) (by decide +kernel) (by decide +kernel)
theorem w823 : ((Jvm.Cond.instanceMethod ⟨"EchoGorge$Reader","readSweet","()Z"⟩) : Cond) ∈ GW := gwt (i := 823) (by decide +kernel) (by decide +kernel)
theorem w824 : ((Jvm.Cond.code ⟨"EchoGorge$Reader","readSweet","()Z"⟩ prog_8_method_19_code 3 (Option.some Jvm.ClassFile.FieldType.boolean)) : Cond) ∈ GW := gwt (i := 824) (by decide +kernel) (by decide +kernel)
theorem w825 : ((Jvm.Cond.methodLink "EchoGorge$Reader" 187 ⟨"EchoGorge$Reader","isToldSound","()Z"⟩) : Cond) ∈ GW := gwt (i := 825) (by decide +kernel) (by decide +kernel)
theorem w827 : ((Jvm.Cond.instanceMethod ⟨"EchoGorge$Reader","isToldSound","()Z"⟩) : Cond) ∈ GW := gwt (i := 827) (by decide +kernel) (by decide +kernel)
theorem w828 : ((Jvm.Cond.code ⟨"EchoGorge$Reader","isToldSound","()Z"⟩ prog_8_method_9_code 1 (Option.some Jvm.ClassFile.FieldType.boolean)) : Cond) ∈ GW := gwt (i := 828) (by decide +kernel) (by decide +kernel)
theorem w830 : ((Jvm.Cond.methodLink "EchoGorge$Reader" 133 ⟨"EchoGorge$Reader","readWord","()Z"⟩) : Cond) ∈ GW := gwt (i := 830) (by decide +kernel) (by decide +kernel)
theorem w832 : ((Jvm.Cond.instanceMethod ⟨"EchoGorge$Reader","readWord","()Z"⟩) : Cond) ∈ GW := gwt (i := 832) (by decide +kernel) (by decide +kernel)
theorem w833 : ((Jvm.Cond.code ⟨"EchoGorge$Reader","readWord","()Z"⟩ prog_8_method_20_code 3 (Option.some Jvm.ClassFile.FieldType.boolean)) : Cond) ∈ GW := gwt (i := 833) (by decide +kernel) (by decide +kernel)
theorem w835 : ((Jvm.Cond.methodLink "EchoGorge$Reader" 138 ⟨"EchoGorge$Reader","readForm","()Z"⟩) : Cond) ∈ GW := gwt (i := 835) (by decide +kernel) (by decide +kernel)
theorem w837 : ((Jvm.Cond.instanceMethod ⟨"EchoGorge$Reader","readForm","()Z"⟩) : Cond) ∈ GW := gwt (i := 837) (by decide +kernel) (by decide +kernel)
theorem w838 : ((Jvm.Cond.code ⟨"EchoGorge$Reader","readForm","()Z"⟩ prog_8_method_21_code 3 (Option.some Jvm.ClassFile.FieldType.boolean)) : Cond) ∈ GW := gwt (i := 838) (by decide +kernel) (by decide +kernel)
theorem w839 : ((Jvm.Cond.methodLink "EchoGorge" 123 ⟨"EchoGorge$Scene","clear","()V"⟩) : Cond) ∈ GW := gwt (i := 839) (by decide +kernel) (by decide +kernel)
theorem w840 : ((Jvm.Cond.methodLink "EchoGorge" 126 ⟨"EchoGorge$Returns","forget","()V"⟩) : Cond) ∈ GW := gwt (i := 840) (by decide +kernel) (by decide +kernel)
theorem w841 : ((Jvm.Cond.instanceMethod ⟨"EchoGorge$Returns","forget","()V"⟩) : Cond) ∈ GW := gwt (i := 841) (by decide +kernel) (by decide +kernel)
theorem w842 : ((Jvm.Cond.selects "EchoGorge$Returns" ⟨"EchoGorge$Returns","forget","()V"⟩ ⟨"EchoGorge$Returns","forget","()V"⟩) : Cond) ∈ GW := gwt (i := 842) (by decide +kernel) (by decide +kernel)
theorem w843 : ((Jvm.Cond.code ⟨"EchoGorge$Returns","forget","()V"⟩ prog_9_method_2_code 1 (Option.none : Option Jvm.ClassFile.FieldType)) : Cond) ∈ GW := gwt (i := 843) (by decide +kernel) (by decide +kernel)
theorem w844 : ((Jvm.Cond.methodLink "EchoGorge" 129 ⟨"EchoGorge$Verses","adopt","(LEchoGorge$Gorge;)V"⟩) : Cond) ∈ GW := gwt (i := 844) (by decide +kernel) (by decide +kernel)
theorem w845 : ((Jvm.Cond.instanceMethod ⟨"EchoGorge$Verses","adopt","(LEchoGorge$Gorge;)V"⟩) : Cond) ∈ GW := gwt (i := 845) (by decide +kernel) (by decide +kernel)
theorem w846 : ((Jvm.Cond.selects "EchoGorge$Verses" ⟨"EchoGorge$Verses","adopt","(LEchoGorge$Gorge;)V"⟩ ⟨"EchoGorge$Verses","adopt","(LEchoGorge$Gorge;)V"⟩) : Cond) ∈ GW := gwt (i := 846) (by decide +kernel) (by decide +kernel)
theorem w847 : ((Jvm.Cond.code ⟨"EchoGorge$Verses","adopt","(LEchoGorge$Gorge;)V"⟩ prog_12_method_2_code 4 (Option.none : Option Jvm.ClassFile.FieldType)) : Cond) ∈ GW := gwt (i := 847) (by decide +kernel) (by decide +kernel)
theorem w848 : ((Jvm.Cond.methodLink "EchoGorge$Verses" 71 ⟨"EchoGorge$Verses","measureForm","(I)V"⟩) : Cond) ∈ GW := gwt (i := 848) (by decide +kernel) (by decide +kernel)
theorem w850 : ((Jvm.Cond.instanceMethod ⟨"EchoGorge$Verses","measureForm","(I)V"⟩) : Cond) ∈ GW := gwt (i := 850) (by decide +kernel) (by decide +kernel)
theorem w851 : ((Jvm.Cond.code ⟨"EchoGorge$Verses","measureForm","(I)V"⟩ prog_12_method_3_code 8 (Option.none : Option Jvm.ClassFile.FieldType)) : Cond) ∈ GW := gwt (i := 851) (by decide +kernel) (by decide +kernel)
theorem w852 : ((Jvm.Cond.methodLink "EchoGorgeLaw" 104 ⟨"EchoGorgeLaw","count","(LEchoGorge;I[J)I"⟩) : Cond) ∈ GW := gwt (i := 852) (by decide +kernel) (by decide +kernel)
theorem w853 : ((Jvm.Cond.static ⟨"EchoGorgeLaw","count","(LEchoGorge;I[J)I"⟩) : Cond) ∈ GW := gwt (i := 853) (by decide +kernel) (by decide +kernel)
theorem w854 : ((Jvm.Cond.codeWith ⟨"EchoGorgeLaw","count","(LEchoGorge;I[J)I"⟩ method_4_code 4 (Option.some Jvm.ClassFile.FieldType.int) [(0, 9, 12, 18)]) : Cond) ∈ GW := gwt (i := 854) (by decide +kernel) (by decide +kernel)
theorem w856 : ((Jvm.Cond.methodLink "EchoGorgeLaw" 15 ⟨"EchoGorge","count","(I)I"⟩) : Cond) ∈ GW := gwt (i := 856) (by decide +kernel) (by decide +kernel)
theorem w857 : ((Jvm.Cond.instanceMethod ⟨"EchoGorge","count","(I)I"⟩) : Cond) ∈ GW := gwt (i := 857) (by decide +kernel) (by decide +kernel)
theorem w858 : ((Jvm.Cond.selects "EchoGorge" ⟨"EchoGorge","count","(I)I"⟩ ⟨"EchoGorge","count","(I)I"⟩) : Cond) ∈ GW := gwt (i := 858) (by decide +kernel) (by decide +kernel)
theorem w859 : ((Jvm.Cond.code ⟨"EchoGorge","count","(I)I"⟩ prog_1_method_6_code 2 (Option.some Jvm.ClassFile.FieldType.int)) : Cond) ∈ GW := gwt (i := 859) (by decide +kernel) (by decide +kernel)
theorem w860 : ((Jvm.Cond.classLink "EchoGorge" 156 "java/util/NoSuchElementException") : Cond) ∈ GW := gwt (i := 860) (by decide +kernel) (by decide +kernel)
theorem w875 : ((Jvm.Cond.methodLink "EchoGorgeLaw" 107 ⟨"EchoGorgeLaw","wall","(LEchoGorge;II[J)I"⟩) : Cond) ∈ GW := gwt (i := 875) (by decide +kernel) (by decide +kernel)
theorem w876 : ((Jvm.Cond.static ⟨"EchoGorgeLaw","wall","(LEchoGorge;II[J)I"⟩) : Cond) ∈ GW := gwt (i := 876) (by decide +kernel) (by decide +kernel)
theorem w877 : ((Jvm.Cond.codeWith ⟨"EchoGorgeLaw","wall","(LEchoGorge;II[J)I"⟩ method_5_code 5 (Option.some Jvm.ClassFile.FieldType.int) [(0, 10, 13, 18)]) : Cond) ∈ GW := gwt (i := 877) (by decide +kernel) (by decide +kernel)
theorem w878 : ((Jvm.Cond.methodLink "EchoGorgeLaw" 20 ⟨"EchoGorge","wall","(II)I"⟩) : Cond) ∈ GW := gwt (i := 878) (by decide +kernel) (by decide +kernel)
theorem w879 : ((Jvm.Cond.instanceMethod ⟨"EchoGorge","wall","(II)I"⟩) : Cond) ∈ GW := gwt (i := 879) (by decide +kernel) (by decide +kernel)
theorem w880 : ((Jvm.Cond.selects "EchoGorge" ⟨"EchoGorge","wall","(II)I"⟩ ⟨"EchoGorge","wall","(II)I"⟩) : Cond) ∈ GW := gwt (i := 880) (by decide +kernel) (by decide +kernel)
theorem w881 : ((Jvm.Cond.code ⟨"EchoGorge","wall","(II)I"⟩ prog_1_method_7_code 3 (Option.some Jvm.ClassFile.FieldType.int)) : Cond) ∈ GW := gwt (i := 881) (by decide +kernel) (by decide +kernel)
theorem w882 : ((Jvm.Cond.methodLink "EchoGorge" 159 ⟨"EchoGorge","needWall","(I)V"⟩) : Cond) ∈ GW := gwt (i := 882) (by decide +kernel) (by decide +kernel)
theorem w884 : ((Jvm.Cond.instanceMethod ⟨"EchoGorge","needWall","(I)V"⟩) : Cond) ∈ GW := gwt (i := 884) (by decide +kernel) (by decide +kernel)
theorem w885 : ((Jvm.Cond.code ⟨"EchoGorge","needWall","(I)V"⟩ prog_1_method_31_code 2 (Option.none : Option Jvm.ClassFile.FieldType)) : Cond) ∈ GW := gwt (i := 885) (by decide +kernel) (by decide +kernel)
theorem w886 : ((Jvm.Cond.methodLink "EchoGorgeLaw" 111 ⟨"EchoGorgeLaw","word","(LEchoGorge;II[J)I"⟩) : Cond) ∈ GW := gwt (i := 886) (by decide +kernel) (by decide +kernel)
theorem w887 : ((Jvm.Cond.static ⟨"EchoGorgeLaw","word","(LEchoGorge;II[J)I"⟩) : Cond) ∈ GW := gwt (i := 887) (by decide +kernel) (by decide +kernel)
theorem w888 : ((Jvm.Cond.codeWith ⟨"EchoGorgeLaw","word","(LEchoGorge;II[J)I"⟩ method_6_code 5 (Option.some Jvm.ClassFile.FieldType.int) [(0, 10, 13, 18)]) : Cond) ∈ GW := gwt (i := 888) (by decide +kernel) (by decide +kernel)
theorem w889 : ((Jvm.Cond.methodLink "EchoGorgeLaw" 24 ⟨"EchoGorge","word","(II)I"⟩) : Cond) ∈ GW := gwt (i := 889) (by decide +kernel) (by decide +kernel)
theorem w890 : ((Jvm.Cond.instanceMethod ⟨"EchoGorge","word","(II)I"⟩) : Cond) ∈ GW := gwt (i := 890) (by decide +kernel) (by decide +kernel)
theorem w891 : ((Jvm.Cond.selects "EchoGorge" ⟨"EchoGorge","word","(II)I"⟩ ⟨"EchoGorge","word","(II)I"⟩) : Cond) ∈ GW := gwt (i := 891) (by decide +kernel) (by decide +kernel)
theorem w892 : ((Jvm.Cond.code ⟨"EchoGorge","word","(II)I"⟩ prog_1_method_8_code 3 (Option.some Jvm.ClassFile.FieldType.int)) : Cond) ∈ GW := gwt (i := 892) (by decide +kernel) (by decide +kernel)
theorem w893 : ((Jvm.Cond.methodLink "EchoGorgeLaw" 114 ⟨"EchoGorgeLaw","say","(LEchoGorge;II[J)I"⟩) : Cond) ∈ GW := gwt (i := 893) (by decide +kernel) (by decide +kernel)
theorem w894 : ((Jvm.Cond.static ⟨"EchoGorgeLaw","say","(LEchoGorge;II[J)I"⟩) : Cond) ∈ GW := gwt (i := 894) (by decide +kernel) (by decide +kernel)
theorem w895 : ((Jvm.Cond.codeWith ⟨"EchoGorgeLaw","say","(LEchoGorge;II[J)I"⟩ method_7_code 5 (Option.some Jvm.ClassFile.FieldType.int) [(0, 10, 13, 18)]) : Cond) ∈ GW := gwt (i := 895) (by decide +kernel) (by decide +kernel)
theorem w896 : ((Jvm.Cond.methodLink "EchoGorgeLaw" 27 ⟨"EchoGorge","say","(II)I"⟩) : Cond) ∈ GW := gwt (i := 896) (by decide +kernel) (by decide +kernel)
theorem w897 : ((Jvm.Cond.instanceMethod ⟨"EchoGorge","say","(II)I"⟩) : Cond) ∈ GW := gwt (i := 897) (by decide +kernel) (by decide +kernel)
theorem w898 : ((Jvm.Cond.selects "EchoGorge" ⟨"EchoGorge","say","(II)I"⟩ ⟨"EchoGorge","say","(II)I"⟩) : Cond) ∈ GW := gwt (i := 898) (by decide +kernel) (by decide +kernel)
theorem w899 : ((Jvm.Cond.code ⟨"EchoGorge","say","(II)I"⟩ prog_1_method_9_code 3 (Option.some Jvm.ClassFile.FieldType.int)) : Cond) ∈ GW := gwt (i := 899) (by decide +kernel) (by decide +kernel)
theorem w900 : ((Jvm.Cond.methodLink "EchoGorge" 183 ⟨"EchoGorge","needSound","(I)V"⟩) : Cond) ∈ GW := gwt (i := 900) (by decide +kernel) (by decide +kernel)
theorem w902 : ((Jvm.Cond.instanceMethod ⟨"EchoGorge","needSound","(I)V"⟩) : Cond) ∈ GW := gwt (i := 902) (by decide +kernel) (by decide +kernel)
theorem w903 : ((Jvm.Cond.code ⟨"EchoGorge","needSound","(I)V"⟩ prog_1_method_30_code 2 (Option.none : Option Jvm.ClassFile.FieldType)) : Cond) ∈ GW := gwt (i := 903) (by decide +kernel) (by decide +kernel)
theorem w904 : ((Jvm.Cond.methodLink "EchoGorge" 186 ⟨"EchoGorge$Scene","addSaid","(II)Z"⟩) : Cond) ∈ GW := gwt (i := 904) (by decide +kernel) (by decide +kernel)
theorem w905 : ((Jvm.Cond.instanceMethod ⟨"EchoGorge$Scene","addSaid","(II)Z"⟩) : Cond) ∈ GW := gwt (i := 905) (by decide +kernel) (by decide +kernel)
theorem w906 : ((Jvm.Cond.selects "EchoGorge$Scene" ⟨"EchoGorge$Scene","addSaid","(II)Z"⟩ ⟨"EchoGorge$Scene","addSaid","(II)Z"⟩) : Cond) ∈ GW := gwt (i := 906) (by decide +kernel) (by decide +kernel)
theorem w907 : ((Jvm.Cond.code ⟨"EchoGorge$Scene","addSaid","(II)Z"⟩ prog_10_method_5_code 3 (Option.some Jvm.ClassFile.FieldType.boolean)) : Cond) ∈ GW := gwt (i := 907) (by decide +kernel) (by decide +kernel)
theorem w908 : ((Jvm.Cond.methodLink "EchoGorgeLaw" 121 ⟨"EchoGorgeLaw","heard","(LEchoGorge;III[J)I"⟩) : Cond) ∈ GW := gwt (i := 908) (by decide +kernel) (by decide +kernel)
theorem w909 : ((Jvm.Cond.static ⟨"EchoGorgeLaw","heard","(LEchoGorge;III[J)I"⟩) : Cond) ∈ GW := gwt (i := 909) (by decide +kernel) (by decide +kernel)
theorem w910 : ((Jvm.Cond.codeWith ⟨"EchoGorgeLaw","heard","(LEchoGorge;III[J)I"⟩ method_8_code 6 (Option.some Jvm.ClassFile.FieldType.int) [(0, 12, 15, 18)]) : Cond) ∈ GW := gwt (i := 910) (by decide +kernel) (by decide +kernel)
theorem w911 : ((Jvm.Cond.methodLink "EchoGorgeLaw" 30 ⟨"EchoGorge","heard","(III)I"⟩) : Cond) ∈ GW := gwt (i := 911) (by decide +kernel) (by decide +kernel)
theorem w912 : ((Jvm.Cond.instanceMethod ⟨"EchoGorge","heard","(III)I"⟩) : Cond) ∈ GW := gwt (i := 912) (by decide +kernel) (by decide +kernel)
theorem w913 : ((Jvm.Cond.selects "EchoGorge" ⟨"EchoGorge","heard","(III)I"⟩ ⟨"EchoGorge","heard","(III)I"⟩) : Cond) ∈ GW := gwt (i := 913) (by decide +kernel) (by decide +kernel)
theorem w914 : ((Jvm.Cond.code ⟨"EchoGorge","heard","(III)I"⟩ prog_1_method_11_code 5 (Option.some Jvm.ClassFile.FieldType.int)) : Cond) ∈ GW := gwt (i := 914) (by decide +kernel) (by decide +kernel)
theorem w915 : ((Jvm.Cond.methodLink "EchoGorge" 193 ⟨"EchoGorge","needMoment","(III)V"⟩) : Cond) ∈ GW := gwt (i := 915) (by decide +kernel) (by decide +kernel)
theorem w917 : ((Jvm.Cond.instanceMethod ⟨"EchoGorge","needMoment","(III)V"⟩) : Cond) ∈ GW := gwt (i := 917) (by decide +kernel) (by decide +kernel)
theorem w918 : ((Jvm.Cond.code ⟨"EchoGorge","needMoment","(III)V"⟩ prog_1_method_34_code 4 (Option.none : Option Jvm.ClassFile.FieldType)) : Cond) ∈ GW := gwt (i := 918) (by decide +kernel) (by decide +kernel)
theorem w919 : ((Jvm.Cond.methodLink "EchoGorge" 287 ⟨"EchoGorge","needEar","(I)V"⟩) : Cond) ∈ GW := gwt (i := 919) (by decide +kernel) (by decide +kernel)
theorem w921 : ((Jvm.Cond.instanceMethod ⟨"EchoGorge","needEar","(I)V"⟩) : Cond) ∈ GW := gwt (i := 921) (by decide +kernel) (by decide +kernel)
theorem w922 : ((Jvm.Cond.code ⟨"EchoGorge","needEar","(I)V"⟩ prog_1_method_32_code 2 (Option.none : Option Jvm.ClassFile.FieldType)) : Cond) ∈ GW := gwt (i := 922) (by decide +kernel) (by decide +kernel)
theorem w923 : ((Jvm.Cond.methodLink "EchoGorge" 230 ⟨"EchoGorge","needHour","(I)V"⟩) : Cond) ∈ GW := gwt (i := 923) (by decide +kernel) (by decide +kernel)
theorem w925 : ((Jvm.Cond.instanceMethod ⟨"EchoGorge","needHour","(I)V"⟩) : Cond) ∈ GW := gwt (i := 925) (by decide +kernel) (by decide +kernel)
theorem w926 : ((Jvm.Cond.code ⟨"EchoGorge","needHour","(I)V"⟩ prog_1_method_33_code 2 (Option.none : Option Jvm.ClassFile.FieldType)) : Cond) ∈ GW := gwt (i := 926) (by decide +kernel) (by decide +kernel)
theorem w927 : ((Jvm.Cond.methodLink "EchoGorge" 200 ⟨"EchoGorge$Returns","build","(LEchoGorge$Gorge;IIII)V"⟩) : Cond) ∈ GW := gwt (i := 927) (by decide +kernel) (by decide +kernel)
theorem w928 : ((Jvm.Cond.instanceMethod ⟨"EchoGorge$Returns","build","(LEchoGorge$Gorge;IIII)V"⟩) : Cond) ∈ GW := gwt (i := 928) (by decide +kernel) (by decide +kernel)
theorem w929 : ((Jvm.Cond.selects "EchoGorge$Returns" ⟨"EchoGorge$Returns","build","(LEchoGorge$Gorge;IIII)V"⟩ ⟨"EchoGorge$Returns","build","(LEchoGorge$Gorge;IIII)V"⟩) : Cond) ∈ GW := gwt (i := 929) (by decide +kernel) (by decide +kernel)
theorem w930 : ((Jvm.Cond.code ⟨"EchoGorge$Returns","build","(LEchoGorge$Gorge;IIII)V"⟩ prog_9_method_3_code 9 (Option.none : Option Jvm.ClassFile.FieldType)) : Cond) ∈ GW := gwt (i := 930) (by decide +kernel) (by decide +kernel)
theorem w931 : ((Jvm.Cond.methodLink "EchoGorge$Returns" 46 ⟨"EchoGorge$Returns","place","(I)I"⟩) : Cond) ∈ GW := gwt (i := 931) (by decide +kernel) (by decide +kernel)
theorem w933 : ((Jvm.Cond.instanceMethod ⟨"EchoGorge$Returns","place","(I)I"⟩) : Cond) ∈ GW := gwt (i := 933) (by decide +kernel) (by decide +kernel)
theorem w934 : ((Jvm.Cond.code ⟨"EchoGorge$Returns","place","(I)I"⟩ prog_9_method_5_code 4 (Option.some Jvm.ClassFile.FieldType.int)) : Cond) ∈ GW := gwt (i := 934) (by decide +kernel) (by decide +kernel)
theorem w935 : ((Jvm.Cond.methodLink "EchoGorge$Returns" 54 ⟨"java/lang/System","arraycopy","(Ljava/lang/Object;ILjava/lang/Object;II)V"⟩) : Cond) ∈ GW := gwt (i := 935) (by decide +kernel) (by decide +kernel)
theorem w936 : ((Jvm.Cond.methodLink "EchoGorge$Returns" 63 ⟨"EchoGorge$Returns","addWall","(LEchoGorge$Gorge;I)V"⟩) : Cond) ∈ GW := gwt (i := 936) (by decide +kernel) (by decide +kernel)
theorem w938 : ((Jvm.Cond.instanceMethod ⟨"EchoGorge$Returns","addWall","(LEchoGorge$Gorge;I)V"⟩) : Cond) ∈ GW := gwt (i := 938) (by decide +kernel) (by decide +kernel)
theorem w939 : ((Jvm.Cond.code ⟨"EchoGorge$Returns","addWall","(LEchoGorge$Gorge;I)V"⟩ prog_9_method_4_code 8 (Option.none : Option Jvm.ClassFile.FieldType)) : Cond) ∈ GW := gwt (i := 939) (by decide +kernel) (by decide +kernel)
theorem w940 : ((Jvm.Cond.methodLink "EchoGorge$Returns" 67 ⟨"EchoGorge$Gorge","foggedShare","(II)I"⟩) : Cond) ∈ GW := gwt (i := 940) (by decide +kernel) (by decide +kernel)
theorem w941 : ((Jvm.Cond.instanceMethod ⟨"EchoGorge$Gorge","foggedShare","(II)I"⟩) : Cond) ∈ GW := gwt (i := 941) (by decide +kernel) (by decide +kernel)
theorem w942 : ((Jvm.Cond.selects "EchoGorge$Gorge" ⟨"EchoGorge$Gorge","foggedShare","(II)I"⟩ ⟨"EchoGorge$Gorge","foggedShare","(II)I"⟩) : Cond) ∈ GW := gwt (i := 942) (by decide +kernel) (by decide +kernel)
theorem w943 : ((Jvm.Cond.code ⟨"EchoGorge$Gorge","foggedShare","(II)I"⟩ prog_4_method_4_code 3 (Option.some Jvm.ClassFile.FieldType.int)) : Cond) ∈ GW := gwt (i := 943) (by decide +kernel) (by decide +kernel)
theorem w944 : ((Jvm.Cond.methodLink "EchoGorge$Returns" 77 ⟨"EchoGorge$Gorge","swallowsSound","(II)Z"⟩) : Cond) ∈ GW := gwt (i := 944) (by decide +kernel) (by decide +kernel)
theorem w945 : ((Jvm.Cond.instanceMethod ⟨"EchoGorge$Gorge","swallowsSound","(II)Z"⟩) : Cond) ∈ GW := gwt (i := 945) (by decide +kernel) (by decide +kernel)
theorem w946 : ((Jvm.Cond.selects "EchoGorge$Gorge" ⟨"EchoGorge$Gorge","swallowsSound","(II)Z"⟩ ⟨"EchoGorge$Gorge","swallowsSound","(II)Z"⟩) : Cond) ∈ GW := gwt (i := 946) (by decide +kernel) (by decide +kernel)
theorem w947 : ((Jvm.Cond.code ⟨"EchoGorge$Gorge","swallowsSound","(II)Z"⟩ prog_4_method_3_code 3 (Option.some Jvm.ClassFile.FieldType.boolean)) : Cond) ∈ GW := gwt (i := 947) (by decide +kernel) (by decide +kernel)
theorem w948 : ((Jvm.Cond.methodLink "EchoGorge" 207 ⟨"EchoGorge$Hearing","attend","(LEchoGorge$Gorge;LEchoGorge$Returns;[II)V"⟩) : Cond) ∈ GW := gwt (i := 948) (by decide +kernel) (by decide +kernel)
theorem w949 : ((Jvm.Cond.instanceMethod ⟨"EchoGorge$Hearing","attend","(LEchoGorge$Gorge;LEchoGorge$Returns;[II)V"⟩) : Cond) ∈ GW := gwt (i := 949) (by decide +kernel) (by decide +kernel)
theorem w950 : ((Jvm.Cond.selects "EchoGorge$Hearing" ⟨"EchoGorge$Hearing","attend","(LEchoGorge$Gorge;LEchoGorge$Returns;[II)V"⟩ ⟨"EchoGorge$Hearing","attend","(LEchoGorge$Gorge;LEchoGorge$Returns;[II)V"⟩) : Cond) ∈ GW := gwt (i := 950) (by decide +kernel) (by decide +kernel)
theorem w951 : ((Jvm.Cond.code ⟨"EchoGorge$Hearing","attend","(LEchoGorge$Gorge;LEchoGorge$Returns;[II)V"⟩ prog_6_method_2_code 5 (Option.none : Option Jvm.ClassFile.FieldType)) : Cond) ∈ GW := gwt (i := 951) (by decide +kernel) (by decide +kernel)
theorem w952 : ((Jvm.Cond.methodLink "EchoGorge" 214 ⟨"java/lang/Math","max","(II)I"⟩) : Cond) ∈ GW := gwt (i := 952) (by decide +kernel) (by decide +kernel)
theorem w953 : ((Jvm.Cond.static ⟨"java/lang/Math","max","(II)I"⟩) : Cond) ∈ GW := gwt (i := 953) (by decide +kernel) (by decide +kernel)
theorem w954 : (Cond.code Lib.Math.max.name Lib.Math.max.code 2 (some .int) : Cond) ∈ GW := gwt (i := 954) (by decide +kernel) (by decide +kernel)
theorem w955 : ((Jvm.Cond.methodLink "EchoGorge" 220 ⟨"EchoGorge$Hearing","measure","(I)V"⟩) : Cond) ∈ GW := gwt (i := 955) (by decide +kernel) (by decide +kernel)
theorem w956 : ((Jvm.Cond.instanceMethod ⟨"EchoGorge$Hearing","measure","(I)V"⟩) : Cond) ∈ GW := gwt (i := 956) (by decide +kernel) (by decide +kernel)
theorem w957 : ((Jvm.Cond.selects "EchoGorge$Hearing" ⟨"EchoGorge$Hearing","measure","(I)V"⟩ ⟨"EchoGorge$Hearing","measure","(I)V"⟩) : Cond) ∈ GW := gwt (i := 957) (by decide +kernel) (by decide +kernel)
theorem w958 : ((Jvm.Cond.code ⟨"EchoGorge$Hearing","measure","(I)V"⟩ prog_6_method_3_code 7 (Option.none : Option Jvm.ClassFile.FieldType)) : Cond) ∈ GW := gwt (i := 958) (by decide +kernel) (by decide +kernel)
theorem w960 : ((Jvm.Cond.static ⟨"EchoGorge","lowestBit","(I)I"⟩) : Cond) ∈ GW := gwt (i := 960) (by decide +kernel) (by decide +kernel)
theorem w961 : ((Jvm.Cond.code ⟨"EchoGorge","lowestBit","(I)I"⟩ prog_1_method_35_code 1 (Option.some Jvm.ClassFile.FieldType.int)) : Cond) ∈ GW := gwt (i := 961) (by decide +kernel) (by decide +kernel)
theorem w962 : ((Jvm.Cond.methodLink "EchoGorge" 322 ⟨"java/lang/Integer","bitCount","(I)I"⟩) : Cond) ∈ GW := gwt (i := 962) (by decide +kernel) (by decide +kernel)
theorem w963 : ((Jvm.Cond.static ⟨"java/lang/Integer","bitCount","(I)I"⟩) : Cond) ∈ GW := gwt (i := 963) (by decide +kernel) (by decide +kernel)
theorem w964 : ((Jvm.Cond.code ⟨"java/lang/Integer","bitCount","(I)I"⟩ prog_20_method_49_code 1 (Option.some Jvm.ClassFile.FieldType.int)) : Cond) ∈ GW := gwt (i := 964) (by decide +kernel) (by decide +kernel)
theorem w965 : ((Jvm.Cond.constant "java/lang/Integer" 265 (1431655765 : Int32)) : Cond) ∈ GW := gwt (i := 965) (by decide +kernel) (by decide +kernel)
theorem w966 : ((Jvm.Cond.constant "java/lang/Integer" 266 (858993459 : Int32)) : Cond) ∈ GW := gwt (i := 966) (by decide +kernel) (by decide +kernel)
theorem w967 : ((Jvm.Cond.constant "java/lang/Integer" 267 (252645135 : Int32)) : Cond) ∈ GW := gwt (i := 967) (by decide +kernel) (by decide +kernel)
theorem w968 : ((Jvm.Cond.methodLink "EchoGorge" 223 ⟨"EchoGorge$Hearing","hears","(I)I"⟩) : Cond) ∈ GW := gwt (i := 968) (by decide +kernel) (by decide +kernel)
theorem w969 : ((Jvm.Cond.instanceMethod ⟨"EchoGorge$Hearing","hears","(I)I"⟩) : Cond) ∈ GW := gwt (i := 969) (by decide +kernel) (by decide +kernel)
theorem w970 : ((Jvm.Cond.selects "EchoGorge$Hearing" ⟨"EchoGorge$Hearing","hears","(I)I"⟩ ⟨"EchoGorge$Hearing","hears","(I)I"⟩) : Cond) ∈ GW := gwt (i := 970) (by decide +kernel) (by decide +kernel)
theorem w971 : ((Jvm.Cond.code ⟨"EchoGorge$Hearing","hears","(I)I"⟩ prog_6_method_4_code 5 (Option.some Jvm.ClassFile.FieldType.int)) : Cond) ∈ GW := gwt (i := 971) (by decide +kernel) (by decide +kernel)
theorem w972 : ((Jvm.Cond.methodLink "EchoGorge$Hearing" 65 ⟨"java/lang/Math","max","(II)I"⟩) : Cond) ∈ GW := gwt (i := 972) (by decide +kernel) (by decide +kernel)
theorem w973 : ((Jvm.Cond.methodLink "EchoGorgeLaw" 125 ⟨"EchoGorgeLaw","loud","(LEchoGorge;IIII[J)I"⟩) : Cond) ∈ GW := gwt (i := 973) (by decide +kernel) (by decide +kernel)
theorem w974 : ((Jvm.Cond.static ⟨"EchoGorgeLaw","loud","(LEchoGorge;IIII[J)I"⟩) : Cond) ∈ GW := gwt (i := 974) (by decide +kernel) (by decide +kernel)
theorem w975 : ((Jvm.Cond.codeWith ⟨"EchoGorgeLaw","loud","(LEchoGorge;IIII[J)I"⟩ method_9_code 7 (Option.some Jvm.ClassFile.FieldType.int) [(0, 14, 17, 18)]) : Cond) ∈ GW := gwt (i := 975) (by decide +kernel) (by decide +kernel)
theorem w976 : ((Jvm.Cond.methodLink "EchoGorgeLaw" 34 ⟨"EchoGorge","loud","(IIII)I"⟩) : Cond) ∈ GW := gwt (i := 976) (by decide +kernel) (by decide +kernel)
theorem w977 : ((Jvm.Cond.instanceMethod ⟨"EchoGorge","loud","(IIII)I"⟩) : Cond) ∈ GW := gwt (i := 977) (by decide +kernel) (by decide +kernel)
theorem w978 : ((Jvm.Cond.selects "EchoGorge" ⟨"EchoGorge","loud","(IIII)I"⟩ ⟨"EchoGorge","loud","(IIII)I"⟩) : Cond) ∈ GW := gwt (i := 978) (by decide +kernel) (by decide +kernel)
theorem w979 : ((Jvm.Cond.code ⟨"EchoGorge","loud","(IIII)I"⟩ prog_1_method_12_code 5 (Option.some Jvm.ClassFile.FieldType.int)) : Cond) ∈ GW := gwt (i := 979) (by decide +kernel) (by decide +kernel)
theorem w980 : ((Jvm.Cond.methodLink "EchoGorge" 227 ⟨"EchoGorge$Hearing","loudness","(II)I"⟩) : Cond) ∈ GW := gwt (i := 980) (by decide +kernel) (by decide +kernel)
theorem w981 : ((Jvm.Cond.instanceMethod ⟨"EchoGorge$Hearing","loudness","(II)I"⟩) : Cond) ∈ GW := gwt (i := 981) (by decide +kernel) (by decide +kernel)
theorem w982 : ((Jvm.Cond.selects "EchoGorge$Hearing" ⟨"EchoGorge$Hearing","loudness","(II)I"⟩ ⟨"EchoGorge$Hearing","loudness","(II)I"⟩) : Cond) ∈ GW := gwt (i := 982) (by decide +kernel) (by decide +kernel)
theorem w983 : ((Jvm.Cond.code ⟨"EchoGorge$Hearing","loudness","(II)I"⟩ prog_6_method_5_code 6 (Option.some Jvm.ClassFile.FieldType.int)) : Cond) ∈ GW := gwt (i := 983) (by decide +kernel) (by decide +kernel)
theorem w984 : ((Jvm.Cond.methodLink "EchoGorgeLaw" 129 ⟨"EchoGorgeLaw","lines","(LEchoGorge;II[J)I"⟩) : Cond) ∈ GW := gwt (i := 984) (by decide +kernel) (by decide +kernel)
theorem w985 : ((Jvm.Cond.static ⟨"EchoGorgeLaw","lines","(LEchoGorge;II[J)I"⟩) : Cond) ∈ GW := gwt (i := 985) (by decide +kernel) (by decide +kernel)
theorem w986 : ((Jvm.Cond.codeWith ⟨"EchoGorgeLaw","lines","(LEchoGorge;II[J)I"⟩ method_10_code 5 (Option.some Jvm.ClassFile.FieldType.int) [(0, 10, 13, 18)]) : Cond) ∈ GW := gwt (i := 986) (by decide +kernel) (by decide +kernel)
theorem w987 : ((Jvm.Cond.methodLink "EchoGorgeLaw" 38 ⟨"EchoGorge","lines","(II)I"⟩) : Cond) ∈ GW := gwt (i := 987) (by decide +kernel) (by decide +kernel)
theorem w988 : ((Jvm.Cond.instanceMethod ⟨"EchoGorge","lines","(II)I"⟩) : Cond) ∈ GW := gwt (i := 988) (by decide +kernel) (by decide +kernel)
theorem w989 : ((Jvm.Cond.selects "EchoGorge" ⟨"EchoGorge","lines","(II)I"⟩ ⟨"EchoGorge","lines","(II)I"⟩) : Cond) ∈ GW := gwt (i := 989) (by decide +kernel) (by decide +kernel)
theorem w990 : ((Jvm.Cond.code ⟨"EchoGorge","lines","(II)I"⟩ prog_1_method_13_code 3 (Option.some Jvm.ClassFile.FieldType.int)) : Cond) ∈ GW := gwt (i := 990) (by decide +kernel) (by decide +kernel)
theorem w991 : ((Jvm.Cond.methodLink "EchoGorge" 236 ⟨"EchoGorge$Verses","survey","(ILEchoGorge$Hearing;LEchoGorge$Returns;)I"⟩) : Cond) ∈ GW := gwt (i := 991) (by decide +kernel) (by decide +kernel)
theorem w992 : ((Jvm.Cond.instanceMethod ⟨"EchoGorge$Verses","survey","(ILEchoGorge$Hearing;LEchoGorge$Returns;)I"⟩) : Cond) ∈ GW := gwt (i := 992) (by decide +kernel) (by decide +kernel)
theorem w993 : ((Jvm.Cond.selects "EchoGorge$Verses" ⟨"EchoGorge$Verses","survey","(ILEchoGorge$Hearing;LEchoGorge$Returns;)I"⟩ ⟨"EchoGorge$Verses","survey","(ILEchoGorge$Hearing;LEchoGorge$Returns;)I"⟩) : Cond) ∈ GW := gwt (i := 993) (by decide +kernel) (by decide +kernel)
theorem w994 : ((Jvm.Cond.code ⟨"EchoGorge$Verses","survey","(ILEchoGorge$Hearing;LEchoGorge$Returns;)I"⟩ prog_12_method_11_code 8 (Option.some Jvm.ClassFile.FieldType.int)) : Cond) ∈ GW := gwt (i := 994) (by decide +kernel) (by decide +kernel)
theorem w995 : ((Jvm.Cond.methodLink "EchoGorge$Verses" 132 ⟨"EchoGorge$Returns","build","(LEchoGorge$Gorge;IIII)V"⟩) : Cond) ∈ GW := gwt (i := 995) (by decide +kernel) (by decide +kernel)
theorem w996 : ((Jvm.Cond.methodLink "EchoGorge$Verses" 136 ⟨"EchoGorge$Verses","surveyForm","(IIILEchoGorge$Hearing;LEchoGorge$Returns;)V"⟩) : Cond) ∈ GW := gwt (i := 996) (by decide +kernel) (by decide +kernel)
theorem w998 : ((Jvm.Cond.instanceMethod ⟨"EchoGorge$Verses","surveyForm","(IIILEchoGorge$Hearing;LEchoGorge$Returns;)V"⟩) : Cond) ∈ GW := gwt (i := 998) (by decide +kernel) (by decide +kernel)
theorem w999 : ((Jvm.Cond.code ⟨"EchoGorge$Verses","surveyForm","(IIILEchoGorge$Hearing;LEchoGorge$Returns;)V"⟩ prog_12_method_12_code 12 (Option.none : Option Jvm.ClassFile.FieldType)) : Cond) ∈ GW := gwt (i := 999) (by decide +kernel) (by decide +kernel)
theorem w1000 : ((Jvm.Cond.methodLink "EchoGorge$Verses" 87 ⟨"java/lang/Math","max","(II)I"⟩) : Cond) ∈ GW := gwt (i := 1000) (by decide +kernel) (by decide +kernel)
theorem w1001 : ((Jvm.Cond.methodLink "EchoGorge$Verses" 140 ⟨"EchoGorge$Verses","spell","(II)V"⟩) : Cond) ∈ GW := gwt (i := 1001) (by decide +kernel) (by decide +kernel)
theorem w1003 : ((Jvm.Cond.instanceMethod ⟨"EchoGorge$Verses","spell","(II)V"⟩) : Cond) ∈ GW := gwt (i := 1003) (by decide +kernel) (by decide +kernel)
theorem w1004 : ((Jvm.Cond.code ⟨"EchoGorge$Verses","spell","(II)V"⟩ prog_12_method_4_code 8 (Option.none : Option Jvm.ClassFile.FieldType)) : Cond) ∈ GW := gwt (i := 1004) (by decide +kernel) (by decide +kernel)
theorem w1005 : ((Jvm.Cond.methodLink "EchoGorge$Verses" 144 ⟨"EchoGorge$Verses","listen","(LEchoGorge$Hearing;LEchoGorge$Returns;)Z"⟩) : Cond) ∈ GW := gwt (i := 1005) (by decide +kernel) (by decide +kernel)
theorem w1007 : ((Jvm.Cond.instanceMethod ⟨"EchoGorge$Verses","listen","(LEchoGorge$Hearing;LEchoGorge$Returns;)Z"⟩) : Cond) ∈ GW := gwt (i := 1007) (by decide +kernel) (by decide +kernel)
theorem w1008 : ((Jvm.Cond.code ⟨"EchoGorge$Verses","listen","(LEchoGorge$Hearing;LEchoGorge$Returns;)Z"⟩ prog_12_method_5_code 6 (Option.some Jvm.ClassFile.FieldType.boolean)) : Cond) ∈ GW := gwt (i := 1008) (by decide +kernel) (by decide +kernel)
theorem w1009 : ((Jvm.Cond.methodLink "EchoGorge$Verses" 101 ⟨"EchoGorge$Hearing","attend","(LEchoGorge$Gorge;LEchoGorge$Returns;[II)V"⟩) : Cond) ∈ GW := gwt (i := 1009) (by decide +kernel) (by decide +kernel)
theorem w1010 : ((Jvm.Cond.methodLink "EchoGorge$Verses" 107 ⟨"EchoGorge$Returns","longest","()I"⟩) : Cond) ∈ GW := gwt (i := 1010) (by decide +kernel) (by decide +kernel)
theorem w1011 : ((Jvm.Cond.instanceMethod ⟨"EchoGorge$Returns","longest","()I"⟩) : Cond) ∈ GW := gwt (i := 1011) (by decide +kernel) (by decide +kernel)
theorem w1012 : ((Jvm.Cond.selects "EchoGorge$Returns" ⟨"EchoGorge$Returns","longest","()I"⟩ ⟨"EchoGorge$Returns","longest","()I"⟩) : Cond) ∈ GW := gwt (i := 1012) (by decide +kernel) (by decide +kernel)
theorem w1013 : ((Jvm.Cond.code ⟨"EchoGorge$Returns","longest","()I"⟩ prog_9_method_6_code 1 (Option.some Jvm.ClassFile.FieldType.int)) : Cond) ∈ GW := gwt (i := 1013) (by decide +kernel) (by decide +kernel)
theorem w1014 : ((Jvm.Cond.methodLink "EchoGorge$Verses" 112 ⟨"EchoGorge$Hearing","measure","(I)V"⟩) : Cond) ∈ GW := gwt (i := 1014) (by decide +kernel) (by decide +kernel)
theorem w1015 : ((Jvm.Cond.methodLink "EchoGorge$Verses" 115 ⟨"EchoGorge$Hearing","hears","(I)I"⟩) : Cond) ∈ GW := gwt (i := 1015) (by decide +kernel) (by decide +kernel)
theorem w1016 : ((Jvm.Cond.methodLink "EchoGorge$Verses" 148 ⟨"EchoGorge$Verses","weigh","(III)I"⟩) : Cond) ∈ GW := gwt (i := 1016) (by decide +kernel) (by decide +kernel)
theorem w1018 : ((Jvm.Cond.instanceMethod ⟨"EchoGorge$Verses","weigh","(III)I"⟩) : Cond) ∈ GW := gwt (i := 1018) (by decide +kernel) (by decide +kernel)
theorem w1019 : ((Jvm.Cond.code ⟨"EchoGorge$Verses","weigh","(III)I"⟩ prog_12_method_13_code 5 (Option.some Jvm.ClassFile.FieldType.int)) : Cond) ∈ GW := gwt (i := 1019) (by decide +kernel) (by decide +kernel)
theorem w1020 : ((Jvm.Cond.methodLink "EchoGorge$Verses" 152 ⟨"EchoGorge$Verses","isEchoed","(I)Z"⟩) : Cond) ∈ GW := gwt (i := 1020) (by decide +kernel) (by decide +kernel)
theorem w1022 : ((Jvm.Cond.instanceMethod ⟨"EchoGorge$Verses","isEchoed","(I)Z"⟩) : Cond) ∈ GW := gwt (i := 1022) (by decide +kernel) (by decide +kernel)
theorem w1023 : ((Jvm.Cond.code ⟨"EchoGorge$Verses","isEchoed","(I)Z"⟩ prog_12_method_10_code 3 (Option.some Jvm.ClassFile.FieldType.boolean)) : Cond) ∈ GW := gwt (i := 1023) (by decide +kernel) (by decide +kernel)
theorem w1024 : ((Jvm.Cond.methodLink "EchoGorge$Verses" 125 ⟨"EchoGorge$Verses","fitsAt","(II)Z"⟩) : Cond) ∈ GW := gwt (i := 1024) (by decide +kernel) (by decide +kernel)
theorem w1026 : ((Jvm.Cond.instanceMethod ⟨"EchoGorge$Verses","fitsAt","(II)Z"⟩) : Cond) ∈ GW := gwt (i := 1026) (by decide +kernel) (by decide +kernel)
theorem w1027 : ((Jvm.Cond.code ⟨"EchoGorge$Verses","fitsAt","(II)Z"⟩ prog_12_method_9_code 4 (Option.some Jvm.ClassFile.FieldType.boolean)) : Cond) ∈ GW := gwt (i := 1027) (by decide +kernel) (by decide +kernel)
theorem w1028 : ((Jvm.Cond.methodLink "EchoGorge$Verses" 156 ⟨"EchoGorge$Verses","isLine","()Z"⟩) : Cond) ∈ GW := gwt (i := 1028) (by decide +kernel) (by decide +kernel)
theorem w1030 : ((Jvm.Cond.instanceMethod ⟨"EchoGorge$Verses","isLine","()Z"⟩) : Cond) ∈ GW := gwt (i := 1030) (by decide +kernel) (by decide +kernel)
theorem w1031 : ((Jvm.Cond.code ⟨"EchoGorge$Verses","isLine","()Z"⟩ prog_12_method_6_code 4 (Option.some Jvm.ClassFile.FieldType.boolean)) : Cond) ∈ GW := gwt (i := 1031) (by decide +kernel) (by decide +kernel)
theorem w1032 : ((Jvm.Cond.methodLink "EchoGorge$Verses" 119 ⟨"EchoGorge$Verses","fittingPlaces","(I)I"⟩) : Cond) ∈ GW := gwt (i := 1032) (by decide +kernel) (by decide +kernel)
theorem w1034 : ((Jvm.Cond.instanceMethod ⟨"EchoGorge$Verses","fittingPlaces","(I)I"⟩) : Cond) ∈ GW := gwt (i := 1034) (by decide +kernel) (by decide +kernel)
theorem w1035 : ((Jvm.Cond.code ⟨"EchoGorge$Verses","fittingPlaces","(I)I"⟩ prog_12_method_8_code 4 (Option.some Jvm.ClassFile.FieldType.int)) : Cond) ∈ GW := gwt (i := 1035) (by decide +kernel) (by decide +kernel)
theorem w1036 : ((Jvm.Cond.methodLink "EchoGorge$Verses" 122 ⟨"EchoGorge$Verses","layKind","(II)I"⟩) : Cond) ∈ GW := gwt (i := 1036) (by decide +kernel) (by decide +kernel)
theorem w1038 : ((Jvm.Cond.instanceMethod ⟨"EchoGorge$Verses","layKind","(II)I"⟩) : Cond) ∈ GW := gwt (i := 1038) (by decide +kernel) (by decide +kernel)
theorem w1039 : ((Jvm.Cond.code ⟨"EchoGorge$Verses","layKind","(II)I"⟩ prog_12_method_7_code 6 (Option.some Jvm.ClassFile.FieldType.int)) : Cond) ∈ GW := gwt (i := 1039) (by decide +kernel) (by decide +kernel)
theorem w1040 : ((Jvm.Cond.methodLink "EchoGorge" 240 ⟨"EchoGorge$Verses","figure","(II)I"⟩) : Cond) ∈ GW := gwt (i := 1040) (by decide +kernel) (by decide +kernel)
theorem w1041 : ((Jvm.Cond.instanceMethod ⟨"EchoGorge$Verses","figure","(II)I"⟩) : Cond) ∈ GW := gwt (i := 1041) (by decide +kernel) (by decide +kernel)
theorem w1042 : ((Jvm.Cond.selects "EchoGorge$Verses" ⟨"EchoGorge$Verses","figure","(II)I"⟩ ⟨"EchoGorge$Verses","figure","(II)I"⟩) : Cond) ∈ GW := gwt (i := 1042) (by decide +kernel) (by decide +kernel)
theorem w1043 : ((Jvm.Cond.code ⟨"EchoGorge$Verses","figure","(II)I"⟩ prog_12_method_14_code 3 (Option.some Jvm.ClassFile.FieldType.int)) : Cond) ∈ GW := gwt (i := 1043) (by decide +kernel) (by decide +kernel)
theorem w1044 : ((Jvm.Cond.methodLink "EchoGorgeLaw" 132 ⟨"EchoGorgeLaw","line","(LEchoGorge;III[J)I"⟩) : Cond) ∈ GW := gwt (i := 1044) (by decide +kernel) (by decide +kernel)
theorem w1045 : ((Jvm.Cond.static ⟨"EchoGorgeLaw","line","(LEchoGorge;III[J)I"⟩) : Cond) ∈ GW := gwt (i := 1045) (by decide +kernel) (by decide +kernel)
theorem w1046 : ((Jvm.Cond.codeWith ⟨"EchoGorgeLaw","line","(LEchoGorge;III[J)I"⟩ method_11_code 6 (Option.some Jvm.ClassFile.FieldType.int) [(0, 12, 15, 18)]) : Cond) ∈ GW := gwt (i := 1046) (by decide +kernel) (by decide +kernel)
theorem w1047 : ((Jvm.Cond.methodLink "EchoGorgeLaw" 41 ⟨"EchoGorge","line","(III)I"⟩) : Cond) ∈ GW := gwt (i := 1047) (by decide +kernel) (by decide +kernel)
theorem w1048 : ((Jvm.Cond.instanceMethod ⟨"EchoGorge","line","(III)I"⟩) : Cond) ∈ GW := gwt (i := 1048) (by decide +kernel) (by decide +kernel)
theorem w1049 : ((Jvm.Cond.selects "EchoGorge" ⟨"EchoGorge","line","(III)I"⟩ ⟨"EchoGorge","line","(III)I"⟩) : Cond) ∈ GW := gwt (i := 1049) (by decide +kernel) (by decide +kernel)
theorem w1050 : ((Jvm.Cond.code ⟨"EchoGorge","line","(III)I"⟩ prog_1_method_14_code 5 (Option.some Jvm.ClassFile.FieldType.int)) : Cond) ∈ GW := gwt (i := 1050) (by decide +kernel) (by decide +kernel)
theorem w1051 : ((Jvm.Cond.methodLink "EchoGorge" 243 ⟨"EchoGorge$Verses","answering","(II)I"⟩) : Cond) ∈ GW := gwt (i := 1051) (by decide +kernel) (by decide +kernel)
theorem w1052 : ((Jvm.Cond.instanceMethod ⟨"EchoGorge$Verses","answering","(II)I"⟩) : Cond) ∈ GW := gwt (i := 1052) (by decide +kernel) (by decide +kernel)
theorem w1053 : ((Jvm.Cond.selects "EchoGorge$Verses" ⟨"EchoGorge$Verses","answering","(II)I"⟩ ⟨"EchoGorge$Verses","answering","(II)I"⟩) : Cond) ∈ GW := gwt (i := 1053) (by decide +kernel) (by decide +kernel)
theorem w1054 : ((Jvm.Cond.code ⟨"EchoGorge$Verses","answering","(II)I"⟩ prog_12_method_16_code 5 (Option.some Jvm.ClassFile.FieldType.int)) : Cond) ∈ GW := gwt (i := 1054) (by decide +kernel) (by decide +kernel)
theorem w1055 : ((Jvm.Cond.methodLink "EchoGorge$Verses" 160 ⟨"EchoGorge$Verses","answersNow","(II)Z"⟩) : Cond) ∈ GW := gwt (i := 1055) (by decide +kernel) (by decide +kernel)
theorem w1057 : ((Jvm.Cond.instanceMethod ⟨"EchoGorge$Verses","answersNow","(II)Z"⟩) : Cond) ∈ GW := gwt (i := 1057) (by decide +kernel) (by decide +kernel)
theorem w1058 : ((Jvm.Cond.code ⟨"EchoGorge$Verses","answersNow","(II)Z"⟩ prog_12_method_15_code 3 (Option.some Jvm.ClassFile.FieldType.boolean)) : Cond) ∈ GW := gwt (i := 1058) (by decide +kernel) (by decide +kernel)
theorem w1059 : ((Jvm.Cond.methodLink "EchoGorge" 246 ⟨"EchoGorge$Verses","partOf","(II)I"⟩) : Cond) ∈ GW := gwt (i := 1059) (by decide +kernel) (by decide +kernel)
theorem w1060 : ((Jvm.Cond.instanceMethod ⟨"EchoGorge$Verses","partOf","(II)I"⟩) : Cond) ∈ GW := gwt (i := 1060) (by decide +kernel) (by decide +kernel)
theorem w1061 : ((Jvm.Cond.selects "EchoGorge$Verses" ⟨"EchoGorge$Verses","partOf","(II)I"⟩ ⟨"EchoGorge$Verses","partOf","(II)I"⟩) : Cond) ∈ GW := gwt (i := 1061) (by decide +kernel) (by decide +kernel)
theorem w1062 : ((Jvm.Cond.code ⟨"EchoGorge$Verses","partOf","(II)I"⟩ prog_12_method_17_code 5 (Option.some Jvm.ClassFile.FieldType.int)) : Cond) ∈ GW := gwt (i := 1062) (by decide +kernel) (by decide +kernel)
theorem w1063 : ((Jvm.Cond.methodLink "EchoGorgeLaw" 135 ⟨"EchoGorgeLaw","still","(LEchoGorge;II[J)I"⟩) : Cond) ∈ GW := gwt (i := 1063) (by decide +kernel) (by decide +kernel)
theorem w1064 : ((Jvm.Cond.static ⟨"EchoGorgeLaw","still","(LEchoGorge;II[J)I"⟩) : Cond) ∈ GW := gwt (i := 1064) (by decide +kernel) (by decide +kernel)
theorem w1065 : ((Jvm.Cond.codeWith ⟨"EchoGorgeLaw","still","(LEchoGorge;II[J)I"⟩ method_12_code 5 (Option.some Jvm.ClassFile.FieldType.int) [(0, 10, 13, 18), (0, 10, 17, 13)]) : Cond) ∈ GW := gwt (i := 1065) (by decide +kernel) (by decide +kernel)
theorem w1066 : ((Jvm.Cond.methodLink "EchoGorgeLaw" 44 ⟨"EchoGorge","still","(II)I"⟩) : Cond) ∈ GW := gwt (i := 1066) (by decide +kernel) (by decide +kernel)
theorem w1067 : ((Jvm.Cond.instanceMethod ⟨"EchoGorge","still","(II)I"⟩) : Cond) ∈ GW := gwt (i := 1067) (by decide +kernel) (by decide +kernel)
theorem w1068 : ((Jvm.Cond.selects "EchoGorge" ⟨"EchoGorge","still","(II)I"⟩ ⟨"EchoGorge","still","(II)I"⟩) : Cond) ∈ GW := gwt (i := 1068) (by decide +kernel) (by decide +kernel)
theorem w1069 : ((Jvm.Cond.code ⟨"EchoGorge","still","(II)I"⟩ prog_1_method_15_code 4 (Option.some Jvm.ClassFile.FieldType.int)) : Cond) ∈ GW := gwt (i := 1069) (by decide +kernel) (by decide +kernel)
theorem w1070 : ((Jvm.Cond.methodLink "EchoGorge" 249 ⟨"EchoGorge$Verses","countStill","(ILEchoGorge$Hearing;LEchoGorge$Returns;I)I"⟩) : Cond) ∈ GW := gwt (i := 1070) (by decide +kernel) (by decide +kernel)
theorem w1071 : ((Jvm.Cond.instanceMethod ⟨"EchoGorge$Verses","countStill","(ILEchoGorge$Hearing;LEchoGorge$Returns;I)I"⟩) : Cond) ∈ GW := gwt (i := 1071) (by decide +kernel) (by decide +kernel)
theorem w1072 : ((Jvm.Cond.selects "EchoGorge$Verses" ⟨"EchoGorge$Verses","countStill","(ILEchoGorge$Hearing;LEchoGorge$Returns;I)I"⟩ ⟨"EchoGorge$Verses","countStill","(ILEchoGorge$Hearing;LEchoGorge$Returns;I)I"⟩) : Cond) ∈ GW := gwt (i := 1072) (by decide +kernel) (by decide +kernel)
theorem w1073 : ((Jvm.Cond.code ⟨"EchoGorge$Verses","countStill","(ILEchoGorge$Hearing;LEchoGorge$Returns;I)I"⟩ prog_12_method_18_code 9 (Option.some Jvm.ClassFile.FieldType.int)) : Cond) ∈ GW := gwt (i := 1073) (by decide +kernel) (by decide +kernel)
theorem w1074 : ((Jvm.Cond.methodLink "EchoGorgeLaw" 138 ⟨"EchoGorgeLaw","without","(LEchoGorge;II[J)I"⟩) : Cond) ∈ GW := gwt (i := 1074) (by decide +kernel) (by decide +kernel)
theorem w1075 : ((Jvm.Cond.static ⟨"EchoGorgeLaw","without","(LEchoGorge;II[J)I"⟩) : Cond) ∈ GW := gwt (i := 1075) (by decide +kernel) (by decide +kernel)
theorem w1076 : ((Jvm.Cond.codeWith ⟨"EchoGorgeLaw","without","(LEchoGorge;II[J)I"⟩ method_13_code 5 (Option.some Jvm.ClassFile.FieldType.int) [(0, 10, 13, 18)]) : Cond) ∈ GW := gwt (i := 1076) (by decide +kernel) (by decide +kernel)
theorem w1077 : ((Jvm.Cond.methodLink "EchoGorgeLaw" 47 ⟨"EchoGorge","without","(II)I"⟩) : Cond) ∈ GW := gwt (i := 1077) (by decide +kernel) (by decide +kernel)
theorem w1078 : ((Jvm.Cond.instanceMethod ⟨"EchoGorge","without","(II)I"⟩) : Cond) ∈ GW := gwt (i := 1078) (by decide +kernel) (by decide +kernel)
theorem w1079 : ((Jvm.Cond.selects "EchoGorge" ⟨"EchoGorge","without","(II)I"⟩ ⟨"EchoGorge","without","(II)I"⟩) : Cond) ∈ GW := gwt (i := 1079) (by decide +kernel) (by decide +kernel)
theorem w1080 : ((Jvm.Cond.code ⟨"EchoGorge","without","(II)I"⟩ prog_1_method_16_code 4 (Option.some Jvm.ClassFile.FieldType.int)) : Cond) ∈ GW := gwt (i := 1080) (by decide +kernel) (by decide +kernel)
theorem w1081 : ((Jvm.Cond.methodLink "EchoGorgeLaw" 141 ⟨"EchoGorgeLaw","lasts","(LEchoGorge;I[J)I"⟩) : Cond) ∈ GW := gwt (i := 1081) (by decide +kernel) (by decide +kernel)
theorem w1082 : ((Jvm.Cond.static ⟨"EchoGorgeLaw","lasts","(LEchoGorge;I[J)I"⟩) : Cond) ∈ GW := gwt (i := 1082) (by decide +kernel) (by decide +kernel)
theorem w1083 : ((Jvm.Cond.codeWith ⟨"EchoGorgeLaw","lasts","(LEchoGorge;I[J)I"⟩ method_14_code 4 (Option.some Jvm.ClassFile.FieldType.int) [(0, 9, 12, 18)]) : Cond) ∈ GW := gwt (i := 1083) (by decide +kernel) (by decide +kernel)
theorem w1084 : ((Jvm.Cond.methodLink "EchoGorgeLaw" 50 ⟨"EchoGorge","lasts","(I)I"⟩) : Cond) ∈ GW := gwt (i := 1084) (by decide +kernel) (by decide +kernel)
theorem w1085 : ((Jvm.Cond.instanceMethod ⟨"EchoGorge","lasts","(I)I"⟩) : Cond) ∈ GW := gwt (i := 1085) (by decide +kernel) (by decide +kernel)
theorem w1086 : ((Jvm.Cond.selects "EchoGorge" ⟨"EchoGorge","lasts","(I)I"⟩ ⟨"EchoGorge","lasts","(I)I"⟩) : Cond) ∈ GW := gwt (i := 1086) (by decide +kernel) (by decide +kernel)
theorem w1087 : ((Jvm.Cond.code ⟨"EchoGorge","lasts","(I)I"⟩ prog_1_method_17_code 2 (Option.some Jvm.ClassFile.FieldType.int)) : Cond) ∈ GW := gwt (i := 1087) (by decide +kernel) (by decide +kernel)
theorem w1088 : ((Jvm.Cond.methodLink "EchoGorge" 253 ⟨"EchoGorge$Verses","thickestFog","(ILEchoGorge$Hearing;LEchoGorge$Returns;)I"⟩) : Cond) ∈ GW := gwt (i := 1088) (by decide +kernel) (by decide +kernel)
theorem w1089 : ((Jvm.Cond.instanceMethod ⟨"EchoGorge$Verses","thickestFog","(ILEchoGorge$Hearing;LEchoGorge$Returns;)I"⟩) : Cond) ∈ GW := gwt (i := 1089) (by decide +kernel) (by decide +kernel)
theorem w1090 : ((Jvm.Cond.selects "EchoGorge$Verses" ⟨"EchoGorge$Verses","thickestFog","(ILEchoGorge$Hearing;LEchoGorge$Returns;)I"⟩ ⟨"EchoGorge$Verses","thickestFog","(ILEchoGorge$Hearing;LEchoGorge$Returns;)I"⟩) : Cond) ∈ GW := gwt (i := 1090) (by decide +kernel) (by decide +kernel)
theorem w1091 : ((Jvm.Cond.code ⟨"EchoGorge$Verses","thickestFog","(ILEchoGorge$Hearing;LEchoGorge$Returns;)I"⟩ prog_12_method_19_code 5 (Option.some Jvm.ClassFile.FieldType.int)) : Cond) ∈ GW := gwt (i := 1091) (by decide +kernel) (by decide +kernel)
theorem w1092 : ((Jvm.Cond.methodLink "EchoGorge$Verses" 163 ⟨"EchoGorge$Verses","searchFog","(ILEchoGorge$Hearing;LEchoGorge$Returns;)I"⟩) : Cond) ∈ GW := gwt (i := 1092) (by decide +kernel) (by decide +kernel)
theorem w1094 : ((Jvm.Cond.instanceMethod ⟨"EchoGorge$Verses","searchFog","(ILEchoGorge$Hearing;LEchoGorge$Returns;)I"⟩) : Cond) ∈ GW := gwt (i := 1094) (by decide +kernel) (by decide +kernel)
theorem w1095 : ((Jvm.Cond.code ⟨"EchoGorge$Verses","searchFog","(ILEchoGorge$Hearing;LEchoGorge$Returns;)I"⟩ prog_12_method_20_code 5 (Option.some Jvm.ClassFile.FieldType.int)) : Cond) ∈ GW := gwt (i := 1095) (by decide +kernel) (by decide +kernel)
theorem w1096 : ((Jvm.Cond.methodLink "EchoGorge$Verses" 167 ⟨"EchoGorge$Verses","changesShares","(I)Z"⟩) : Cond) ∈ GW := gwt (i := 1096) (by decide +kernel) (by decide +kernel)
theorem w1098 : ((Jvm.Cond.instanceMethod ⟨"EchoGorge$Verses","changesShares","(I)Z"⟩) : Cond) ∈ GW := gwt (i := 1098) (by decide +kernel) (by decide +kernel)
theorem w1099 : ((Jvm.Cond.code ⟨"EchoGorge$Verses","changesShares","(I)Z"⟩ prog_12_method_21_code 3 (Option.some Jvm.ClassFile.FieldType.boolean)) : Cond) ∈ GW := gwt (i := 1099) (by decide +kernel) (by decide +kernel)
theorem w1100 : ((Jvm.Cond.methodLink "EchoGorge$Verses" 183 ⟨"EchoGorge$Gorge","foggedShare","(II)I"⟩) : Cond) ∈ GW := gwt (i := 1100) (by decide +kernel) (by decide +kernel)
theorem w1101 : ((Jvm.Cond.methodLink "EchoGorge$Verses" 173 ⟨"EchoGorge$Returns","canReach","(I)Z"⟩) : Cond) ∈ GW := gwt (i := 1101) (by decide +kernel) (by decide +kernel)
theorem w1102 : ((Jvm.Cond.instanceMethod ⟨"EchoGorge$Returns","canReach","(I)Z"⟩) : Cond) ∈ GW := gwt (i := 1102) (by decide +kernel) (by decide +kernel)
theorem w1103 : ((Jvm.Cond.selects "EchoGorge$Returns" ⟨"EchoGorge$Returns","canReach","(I)Z"⟩ ⟨"EchoGorge$Returns","canReach","(I)Z"⟩) : Cond) ∈ GW := gwt (i := 1103) (by decide +kernel) (by decide +kernel)
theorem w1104 : ((Jvm.Cond.code ⟨"EchoGorge$Returns","canReach","(I)Z"⟩ prog_9_method_7_code 5 (Option.some Jvm.ClassFile.FieldType.boolean)) : Cond) ∈ GW := gwt (i := 1104) (by decide +kernel) (by decide +kernel)
theorem w1105 : ((Jvm.Cond.methodLink "EchoGorge$Verses" 176 ⟨"EchoGorge$Verses","countStill","(ILEchoGorge$Hearing;LEchoGorge$Returns;I)I"⟩) : Cond) ∈ GW := gwt (i := 1105) (by decide +kernel) (by decide +kernel)
theorem w1106 : ((Jvm.Cond.methodLink "EchoGorgeLaw" 144 ⟨"EchoGorgeLaw","sing","(LEchoGorge;II[J)I"⟩) : Cond) ∈ GW := gwt (i := 1106) (by decide +kernel) (by decide +kernel)
theorem w1107 : ((Jvm.Cond.static ⟨"EchoGorgeLaw","sing","(LEchoGorge;II[J)I"⟩) : Cond) ∈ GW := gwt (i := 1107) (by decide +kernel) (by decide +kernel)
theorem w1108 : ((Jvm.Cond.codeWith ⟨"EchoGorgeLaw","sing","(LEchoGorge;II[J)I"⟩ method_15_code 5 (Option.some Jvm.ClassFile.FieldType.int) [(0, 10, 13, 18)]) : Cond) ∈ GW := gwt (i := 1108) (by decide +kernel) (by decide +kernel)
theorem w1109 : ((Jvm.Cond.methodLink "EchoGorgeLaw" 53 ⟨"EchoGorge","sing","(II)I"⟩) : Cond) ∈ GW := gwt (i := 1109) (by decide +kernel) (by decide +kernel)
theorem w1110 : ((Jvm.Cond.instanceMethod ⟨"EchoGorge","sing","(II)I"⟩) : Cond) ∈ GW := gwt (i := 1110) (by decide +kernel) (by decide +kernel)
theorem w1111 : ((Jvm.Cond.selects "EchoGorge" ⟨"EchoGorge","sing","(II)I"⟩ ⟨"EchoGorge","sing","(II)I"⟩) : Cond) ∈ GW := gwt (i := 1111) (by decide +kernel) (by decide +kernel)
theorem w1112 : ((Jvm.Cond.code ⟨"EchoGorge","sing","(II)I"⟩ prog_1_method_18_code 3 (Option.some Jvm.ClassFile.FieldType.int)) : Cond) ∈ GW := gwt (i := 1112) (by decide +kernel) (by decide +kernel)
theorem w1113 : ((Jvm.Cond.methodLink "EchoGorgeLaw" 147 ⟨"EchoGorgeLaw","round","(LEchoGorge;I[J)I"⟩) : Cond) ∈ GW := gwt (i := 1113) (by decide +kernel) (by decide +kernel)
theorem w1114 : ((Jvm.Cond.static ⟨"EchoGorgeLaw","round","(LEchoGorge;I[J)I"⟩) : Cond) ∈ GW := gwt (i := 1114) (by decide +kernel) (by decide +kernel)
theorem w1115 : ((Jvm.Cond.codeWith ⟨"EchoGorgeLaw","round","(LEchoGorge;I[J)I"⟩ method_16_code 4 (Option.some Jvm.ClassFile.FieldType.int) [(0, 9, 12, 18)]) : Cond) ∈ GW := gwt (i := 1115) (by decide +kernel) (by decide +kernel)
theorem w1116 : ((Jvm.Cond.methodLink "EchoGorgeLaw" 56 ⟨"EchoGorge","round","(I)I"⟩) : Cond) ∈ GW := gwt (i := 1116) (by decide +kernel) (by decide +kernel)
theorem w1117 : ((Jvm.Cond.instanceMethod ⟨"EchoGorge","round","(I)I"⟩) : Cond) ∈ GW := gwt (i := 1117) (by decide +kernel) (by decide +kernel)
theorem w1118 : ((Jvm.Cond.selects "EchoGorge" ⟨"EchoGorge","round","(I)I"⟩ ⟨"EchoGorge","round","(I)I"⟩) : Cond) ∈ GW := gwt (i := 1118) (by decide +kernel) (by decide +kernel)
theorem w1119 : ((Jvm.Cond.code ⟨"EchoGorge","round","(I)I"⟩ prog_1_method_19_code 2 (Option.some Jvm.ClassFile.FieldType.int)) : Cond) ∈ GW := gwt (i := 1119) (by decide +kernel) (by decide +kernel)
theorem w1120 : ((Jvm.Cond.methodLink "EchoGorge" 262 ⟨"EchoGorge$Chant","clashes","(LEchoGorge$Gorge;LEchoGorge$Returns;LEchoGorge$Scene;I)I"⟩) : Cond) ∈ GW := gwt (i := 1120) (by decide +kernel) (by decide +kernel)
theorem w1121 : ((Jvm.Cond.instanceMethod ⟨"EchoGorge$Chant","clashes","(LEchoGorge$Gorge;LEchoGorge$Returns;LEchoGorge$Scene;I)I"⟩) : Cond) ∈ GW := gwt (i := 1121) (by decide +kernel) (by decide +kernel)
theorem w1122 : ((Jvm.Cond.selects "EchoGorge$Chant" ⟨"EchoGorge$Chant","clashes","(LEchoGorge$Gorge;LEchoGorge$Returns;LEchoGorge$Scene;I)I"⟩ ⟨"EchoGorge$Chant","clashes","(LEchoGorge$Gorge;LEchoGorge$Returns;LEchoGorge$Scene;I)I"⟩) : Cond) ∈ GW := gwt (i := 1122) (by decide +kernel) (by decide +kernel)
theorem w1123 : ((Jvm.Cond.code ⟨"EchoGorge$Chant","clashes","(LEchoGorge$Gorge;LEchoGorge$Returns;LEchoGorge$Scene;I)I"⟩ prog_2_method_2_code 7 (Option.some Jvm.ClassFile.FieldType.int)) : Cond) ∈ GW := gwt (i := 1123) (by decide +kernel) (by decide +kernel)
theorem w1124 : ((Jvm.Cond.methodLink "EchoGorge$Chant" 15 ⟨"EchoGorge$Chant","listen","(LEchoGorge$Gorge;LEchoGorge$Returns;LEchoGorge$Scene;II)I"⟩) : Cond) ∈ GW := gwt (i := 1124) (by decide +kernel) (by decide +kernel)
theorem w1126 : ((Jvm.Cond.instanceMethod ⟨"EchoGorge$Chant","listen","(LEchoGorge$Gorge;LEchoGorge$Returns;LEchoGorge$Scene;II)I"⟩) : Cond) ∈ GW := gwt (i := 1126) (by decide +kernel) (by decide +kernel)
theorem w1127 : ((Jvm.Cond.code ⟨"EchoGorge$Chant","listen","(LEchoGorge$Gorge;LEchoGorge$Returns;LEchoGorge$Scene;II)I"⟩ prog_2_method_4_code 9 (Option.some Jvm.ClassFile.FieldType.int)) : Cond) ∈ GW := gwt (i := 1127) (by decide +kernel) (by decide +kernel)
theorem w1128 : ((Jvm.Cond.methodLink "EchoGorge$Chant" 33 ⟨"java/util/Arrays","fill","([II)V"⟩) : Cond) ∈ GW := gwt (i := 1128) (by decide +kernel) (by decide +kernel)
theorem w1129 : ((Jvm.Cond.methodLink "EchoGorge$Chant" 47 ⟨"java/lang/Math","floorMod","(II)I"⟩) : Cond) ∈ GW := gwt (i := 1129) (by decide +kernel) (by decide +kernel)
theorem w1130 : ((Jvm.Cond.static ⟨"java/lang/Math","floorMod","(II)I"⟩) : Cond) ∈ GW := gwt (i := 1130) (by decide +kernel) (by decide +kernel)
theorem w1131 : ((Jvm.Cond.code ⟨"java/lang/Math","floorMod","(II)I"⟩ prog_21_method_50_code 3 (Option.some Jvm.ClassFile.FieldType.int)) : Cond) ∈ GW := gwt (i := 1131) (by decide +kernel) (by decide +kernel)
theorem w1132 : ((Jvm.Cond.methodLink "EchoGorge$Chant" 19 ⟨"EchoGorge$Chant","isClash","(LEchoGorge$Gorge;I)Z"⟩) : Cond) ∈ GW := gwt (i := 1132) (by decide +kernel) (by decide +kernel)
theorem w1133 : ((Jvm.Cond.static ⟨"EchoGorge$Chant","isClash","(LEchoGorge$Gorge;I)Z"⟩) : Cond) ∈ GW := gwt (i := 1133) (by decide +kernel) (by decide +kernel)
theorem w1134 : ((Jvm.Cond.code ⟨"EchoGorge$Chant","isClash","(LEchoGorge$Gorge;I)Z"⟩ prog_2_method_5_code 4 (Option.some Jvm.ClassFile.FieldType.boolean)) : Cond) ∈ GW := gwt (i := 1134) (by decide +kernel) (by decide +kernel)
theorem w1136 : ((Jvm.Cond.methodLink "EchoGorge" 266 ⟨"EchoGorge$Chant","rests","(LEchoGorge$Gorge;LEchoGorge$Returns;LEchoGorge$Scene;)I"⟩) : Cond) ∈ GW := gwt (i := 1136) (by decide +kernel) (by decide +kernel)
theorem w1137 : ((Jvm.Cond.instanceMethod ⟨"EchoGorge$Chant","rests","(LEchoGorge$Gorge;LEchoGorge$Returns;LEchoGorge$Scene;)I"⟩) : Cond) ∈ GW := gwt (i := 1137) (by decide +kernel) (by decide +kernel)
theorem w1138 : ((Jvm.Cond.selects "EchoGorge$Chant" ⟨"EchoGorge$Chant","rests","(LEchoGorge$Gorge;LEchoGorge$Returns;LEchoGorge$Scene;)I"⟩ ⟨"EchoGorge$Chant","rests","(LEchoGorge$Gorge;LEchoGorge$Returns;LEchoGorge$Scene;)I"⟩) : Cond) ∈ GW := gwt (i := 1138) (by decide +kernel) (by decide +kernel)
theorem w1139 : ((Jvm.Cond.code ⟨"EchoGorge$Chant","rests","(LEchoGorge$Gorge;LEchoGorge$Returns;LEchoGorge$Scene;)I"⟩ prog_2_method_3_code 5 (Option.some Jvm.ClassFile.FieldType.int)) : Cond) ∈ GW := gwt (i := 1139) (by decide +kernel) (by decide +kernel)
theorem w1140 : ((Jvm.Cond.methodLink "EchoGorge$Chant" 29 ⟨"EchoGorge$Chant","clashes","(LEchoGorge$Gorge;LEchoGorge$Returns;LEchoGorge$Scene;I)I"⟩) : Cond) ∈ GW := gwt (i := 1140) (by decide +kernel) (by decide +kernel)
theorem w1141 : ((Jvm.Cond.methodLink "EchoGorgeLaw" 150 ⟨"EchoGorgeLaw","tell","(LEchoGorge;I[J)I"⟩) : Cond) ∈ GW := gwt (i := 1141) (by decide +kernel) (by decide +kernel)
theorem w1142 : ((Jvm.Cond.static ⟨"EchoGorgeLaw","tell","(LEchoGorge;I[J)I"⟩) : Cond) ∈ GW := gwt (i := 1142) (by decide +kernel) (by decide +kernel)
theorem w1143 : ((Jvm.Cond.codeWith ⟨"EchoGorgeLaw","tell","(LEchoGorge;I[J)I"⟩ method_17_code 4 (Option.some Jvm.ClassFile.FieldType.int) [(0, 9, 12, 18)]) : Cond) ∈ GW := gwt (i := 1143) (by decide +kernel) (by decide +kernel)
theorem w1144 : ((Jvm.Cond.methodLink "EchoGorgeLaw" 59 ⟨"EchoGorge","tell","(I)I"⟩) : Cond) ∈ GW := gwt (i := 1144) (by decide +kernel) (by decide +kernel)
theorem w1145 : ((Jvm.Cond.instanceMethod ⟨"EchoGorge","tell","(I)I"⟩) : Cond) ∈ GW := gwt (i := 1145) (by decide +kernel) (by decide +kernel)
theorem w1146 : ((Jvm.Cond.selects "EchoGorge" ⟨"EchoGorge","tell","(I)I"⟩ ⟨"EchoGorge","tell","(I)I"⟩) : Cond) ∈ GW := gwt (i := 1146) (by decide +kernel) (by decide +kernel)
theorem w1147 : ((Jvm.Cond.code ⟨"EchoGorge","tell","(I)I"⟩ prog_1_method_20_code 2 (Option.some Jvm.ClassFile.FieldType.int)) : Cond) ∈ GW := gwt (i := 1147) (by decide +kernel) (by decide +kernel)
theorem w1148 : ((Jvm.Cond.methodLink "EchoGorgeLaw" 157 ⟨"EchoGorgeLaw","rivals","(LEchoGorge;II[J)I"⟩) : Cond) ∈ GW := gwt (i := 1148) (by decide +kernel) (by decide +kernel)
theorem w1149 : ((Jvm.Cond.static ⟨"EchoGorgeLaw","rivals","(LEchoGorge;II[J)I"⟩) : Cond) ∈ GW := gwt (i := 1149) (by decide +kernel) (by decide +kernel)
theorem w1150 : ((Jvm.Cond.codeWith ⟨"EchoGorgeLaw","rivals","(LEchoGorge;II[J)I"⟩ method_18_code 5 (Option.some Jvm.ClassFile.FieldType.int) [(0, 10, 13, 18), (0, 10, 17, 13)]) : Cond) ∈ GW := gwt (i := 1150) (by decide +kernel) (by decide +kernel)
theorem w1151 : ((Jvm.Cond.methodLink "EchoGorgeLaw" 62 ⟨"EchoGorge","rivals","(II)I"⟩) : Cond) ∈ GW := gwt (i := 1151) (by decide +kernel) (by decide +kernel)
theorem w1152 : ((Jvm.Cond.instanceMethod ⟨"EchoGorge","rivals","(II)I"⟩) : Cond) ∈ GW := gwt (i := 1152) (by decide +kernel) (by decide +kernel)
theorem w1153 : ((Jvm.Cond.selects "EchoGorge" ⟨"EchoGorge","rivals","(II)I"⟩ ⟨"EchoGorge","rivals","(II)I"⟩) : Cond) ∈ GW := gwt (i := 1153) (by decide +kernel) (by decide +kernel)
theorem w1154 : ((Jvm.Cond.code ⟨"EchoGorge","rivals","(II)I"⟩ prog_1_method_22_code 3 (Option.some Jvm.ClassFile.FieldType.int)) : Cond) ∈ GW := gwt (i := 1154) (by decide +kernel) (by decide +kernel)
theorem w1155 : ((Jvm.Cond.methodLink "EchoGorge" 276 ⟨"EchoGorge$Guess","find","(LEchoGorge$Gorge;LEchoGorge$Scene;LEchoGorge$Hearing;I)V"⟩) : Cond) ∈ GW := gwt (i := 1155) (by decide +kernel) (by decide +kernel)
theorem w1156 : ((Jvm.Cond.instanceMethod ⟨"EchoGorge$Guess","find","(LEchoGorge$Gorge;LEchoGorge$Scene;LEchoGorge$Hearing;I)V"⟩) : Cond) ∈ GW := gwt (i := 1156) (by decide +kernel) (by decide +kernel)
theorem w1157 : ((Jvm.Cond.selects "EchoGorge$Guess" ⟨"EchoGorge$Guess","find","(LEchoGorge$Gorge;LEchoGorge$Scene;LEchoGorge$Hearing;I)V"⟩ ⟨"EchoGorge$Guess","find","(LEchoGorge$Gorge;LEchoGorge$Scene;LEchoGorge$Hearing;I)V"⟩) : Cond) ∈ GW := gwt (i := 1157) (by decide +kernel) (by decide +kernel)
theorem w1158 : ((Jvm.Cond.code ⟨"EchoGorge$Guess","find","(LEchoGorge$Gorge;LEchoGorge$Scene;LEchoGorge$Hearing;I)V"⟩ prog_5_method_3_code 5 (Option.none : Option Jvm.ClassFile.FieldType)) : Cond) ∈ GW := gwt (i := 1158) (by decide +kernel) (by decide +kernel)
theorem w1159 : ((Jvm.Cond.methodLink "EchoGorge$Guess" 38 ⟨"EchoGorge$Returns","prepareLike","(LEchoGorge$Gorge;II)V"⟩) : Cond) ∈ GW := gwt (i := 1159) (by decide +kernel) (by decide +kernel)
theorem w1160 : ((Jvm.Cond.instanceMethod ⟨"EchoGorge$Returns","prepareLike","(LEchoGorge$Gorge;II)V"⟩) : Cond) ∈ GW := gwt (i := 1160) (by decide +kernel) (by decide +kernel)
theorem w1161 : ((Jvm.Cond.selects "EchoGorge$Returns" ⟨"EchoGorge$Returns","prepareLike","(LEchoGorge$Gorge;II)V"⟩ ⟨"EchoGorge$Returns","prepareLike","(LEchoGorge$Gorge;II)V"⟩) : Cond) ∈ GW := gwt (i := 1161) (by decide +kernel) (by decide +kernel)
theorem w1162 : ((Jvm.Cond.code ⟨"EchoGorge$Returns","prepareLike","(LEchoGorge$Gorge;II)V"⟩ prog_9_method_8_code 7 (Option.none : Option Jvm.ClassFile.FieldType)) : Cond) ∈ GW := gwt (i := 1162) (by decide +kernel) (by decide +kernel)
theorem w1163 : ((Jvm.Cond.methodLink "EchoGorge$Guess" 42 ⟨"EchoGorge$Guess","searchAll","(LEchoGorge$Gorge;LEchoGorge$Scene;LEchoGorge$Hearing;)V"⟩) : Cond) ∈ GW := gwt (i := 1163) (by decide +kernel) (by decide +kernel)
theorem w1165 : ((Jvm.Cond.instanceMethod ⟨"EchoGorge$Guess","searchAll","(LEchoGorge$Gorge;LEchoGorge$Scene;LEchoGorge$Hearing;)V"⟩) : Cond) ∈ GW := gwt (i := 1165) (by decide +kernel) (by decide +kernel)
theorem w1166 : ((Jvm.Cond.code ⟨"EchoGorge$Guess","searchAll","(LEchoGorge$Gorge;LEchoGorge$Scene;LEchoGorge$Hearing;)V"⟩ prog_5_method_4_code 9 (Option.none : Option Jvm.ClassFile.FieldType)) : Cond) ∈ GW := gwt (i := 1166) (by decide +kernel) (by decide +kernel)
theorem w1167 : ((Jvm.Cond.methodLink "EchoGorge$Guess" 50 ⟨"java/lang/Math","max","(II)I"⟩) : Cond) ∈ GW := gwt (i := 1167) (by decide +kernel) (by decide +kernel)
theorem w1168 : ((Jvm.Cond.methodLink "EchoGorge$Guess" 56 ⟨"EchoGorge$Returns","layDelays","(III)V"⟩) : Cond) ∈ GW := gwt (i := 1168) (by decide +kernel) (by decide +kernel)
theorem w1169 : ((Jvm.Cond.instanceMethod ⟨"EchoGorge$Returns","layDelays","(III)V"⟩) : Cond) ∈ GW := gwt (i := 1169) (by decide +kernel) (by decide +kernel)
theorem w1170 : ((Jvm.Cond.selects "EchoGorge$Returns" ⟨"EchoGorge$Returns","layDelays","(III)V"⟩ ⟨"EchoGorge$Returns","layDelays","(III)V"⟩) : Cond) ∈ GW := gwt (i := 1170) (by decide +kernel) (by decide +kernel)
theorem w1171 : ((Jvm.Cond.code ⟨"EchoGorge$Returns","layDelays","(III)V"⟩ prog_9_method_9_code 4 (Option.none : Option Jvm.ClassFile.FieldType)) : Cond) ∈ GW := gwt (i := 1171) (by decide +kernel) (by decide +kernel)
theorem w1172 : ((Jvm.Cond.methodLink "EchoGorge$Guess" 60 ⟨"EchoGorge$Guess","firstMiss","(LEchoGorge$Gorge;LEchoGorge$Scene;LEchoGorge$Hearing;)I"⟩) : Cond) ∈ GW := gwt (i := 1172) (by decide +kernel) (by decide +kernel)
theorem w1174 : ((Jvm.Cond.instanceMethod ⟨"EchoGorge$Guess","firstMiss","(LEchoGorge$Gorge;LEchoGorge$Scene;LEchoGorge$Hearing;)I"⟩) : Cond) ∈ GW := gwt (i := 1174) (by decide +kernel) (by decide +kernel)
theorem w1175 : ((Jvm.Cond.code ⟨"EchoGorge$Guess","firstMiss","(LEchoGorge$Gorge;LEchoGorge$Scene;LEchoGorge$Hearing;)I"⟩ prog_5_method_5_code 5 (Option.some Jvm.ClassFile.FieldType.int)) : Cond) ∈ GW := gwt (i := 1175) (by decide +kernel) (by decide +kernel)
theorem w1176 : ((Jvm.Cond.methodLink "EchoGorge$Guess" 76 ⟨"EchoGorge$Hearing","attend","(LEchoGorge$Gorge;LEchoGorge$Returns;[II)V"⟩) : Cond) ∈ GW := gwt (i := 1176) (by decide +kernel) (by decide +kernel)
theorem w1177 : ((Jvm.Cond.methodLink "EchoGorge$Guess" 82 ⟨"EchoGorge$Hearing","measure","(I)V"⟩) : Cond) ∈ GW := gwt (i := 1177) (by decide +kernel) (by decide +kernel)
theorem w1178 : ((Jvm.Cond.methodLink "EchoGorge$Guess" 86 ⟨"EchoGorge$Hearing","hears","(I)I"⟩) : Cond) ∈ GW := gwt (i := 1178) (by decide +kernel) (by decide +kernel)
theorem w1179 : ((Jvm.Cond.methodLink "EchoGorge$Guess" 67 ⟨"EchoGorge$Guess","take","(II)V"⟩) : Cond) ∈ GW := gwt (i := 1179) (by decide +kernel) (by decide +kernel)
theorem w1181 : ((Jvm.Cond.instanceMethod ⟨"EchoGorge$Guess","take","(II)V"⟩) : Cond) ∈ GW := gwt (i := 1181) (by decide +kernel) (by decide +kernel)
theorem w1182 : ((Jvm.Cond.code ⟨"EchoGorge$Guess","take","(II)V"⟩ prog_5_method_6_code 5 (Option.none : Option Jvm.ClassFile.FieldType)) : Cond) ∈ GW := gwt (i := 1182) (by decide +kernel) (by decide +kernel)
theorem w1183 : ((Jvm.Cond.methodLink "EchoGorge$Guess" 93 ⟨"java/lang/Integer","bitCount","(I)I"⟩) : Cond) ∈ GW := gwt (i := 1183) (by decide +kernel) (by decide +kernel)
theorem w1184 : ((Jvm.Cond.methodLink "EchoGorge$Guess" 46 ⟨"EchoGorge$Guess","findNext","(LEchoGorge$Gorge;)V"⟩) : Cond) ∈ GW := gwt (i := 1184) (by decide +kernel) (by decide +kernel)
theorem w1186 : ((Jvm.Cond.instanceMethod ⟨"EchoGorge$Guess","findNext","(LEchoGorge$Gorge;)V"⟩) : Cond) ∈ GW := gwt (i := 1186) (by decide +kernel) (by decide +kernel)
theorem w1187 : ((Jvm.Cond.code ⟨"EchoGorge$Guess","findNext","(LEchoGorge$Gorge;)V"⟩ prog_5_method_7_code 4 (Option.none : Option Jvm.ClassFile.FieldType)) : Cond) ∈ GW := gwt (i := 1187) (by decide +kernel) (by decide +kernel)
theorem w1188 : ((Jvm.Cond.methodLink "EchoGorge$Guess" 110 ⟨"EchoGorge$Guess","greatestGroup","(LEchoGorge$Gorge;I)I"⟩) : Cond) ∈ GW := gwt (i := 1188) (by decide +kernel) (by decide +kernel)
theorem w1190 : ((Jvm.Cond.instanceMethod ⟨"EchoGorge$Guess","greatestGroup","(LEchoGorge$Gorge;I)I"⟩) : Cond) ∈ GW := gwt (i := 1190) (by decide +kernel) (by decide +kernel)
theorem w1191 : ((Jvm.Cond.code ⟨"EchoGorge$Guess","greatestGroup","(LEchoGorge$Gorge;I)I"⟩ prog_5_method_8_code 4 (Option.some Jvm.ClassFile.FieldType.int)) : Cond) ∈ GW := gwt (i := 1191) (by decide +kernel) (by decide +kernel)
theorem w1192 : ((Jvm.Cond.methodLink "EchoGorgeLaw" 160 ⟨"EchoGorgeLaw","sayers","(LEchoGorge;I[J)I"⟩) : Cond) ∈ GW := gwt (i := 1192) (by decide +kernel) (by decide +kernel)
theorem w1193 : ((Jvm.Cond.static ⟨"EchoGorgeLaw","sayers","(LEchoGorge;I[J)I"⟩) : Cond) ∈ GW := gwt (i := 1193) (by decide +kernel) (by decide +kernel)
theorem w1194 : ((Jvm.Cond.codeWith ⟨"EchoGorgeLaw","sayers","(LEchoGorge;I[J)I"⟩ method_19_code 4 (Option.some Jvm.ClassFile.FieldType.int) [(0, 9, 12, 18)]) : Cond) ∈ GW := gwt (i := 1194) (by decide +kernel) (by decide +kernel)
theorem w1195 : ((Jvm.Cond.methodLink "EchoGorgeLaw" 65 ⟨"EchoGorge","sayers","(I)I"⟩) : Cond) ∈ GW := gwt (i := 1195) (by decide +kernel) (by decide +kernel)
theorem w1196 : ((Jvm.Cond.instanceMethod ⟨"EchoGorge","sayers","(I)I"⟩) : Cond) ∈ GW := gwt (i := 1196) (by decide +kernel) (by decide +kernel)
theorem w1197 : ((Jvm.Cond.selects "EchoGorge" ⟨"EchoGorge","sayers","(I)I"⟩ ⟨"EchoGorge","sayers","(I)I"⟩) : Cond) ∈ GW := gwt (i := 1197) (by decide +kernel) (by decide +kernel)
theorem w1198 : ((Jvm.Cond.code ⟨"EchoGorge","sayers","(I)I"⟩ prog_1_method_23_code 2 (Option.some Jvm.ClassFile.FieldType.int)) : Cond) ∈ GW := gwt (i := 1198) (by decide +kernel) (by decide +kernel)
theorem w1199 : ((Jvm.Cond.methodLink "EchoGorge" 283 ⟨"EchoGorge$Truth","find","(LEchoGorge$Gorge;LEchoGorge$Scene;LEchoGorge$Hearing;LEchoGorge$Returns;)V"⟩) : Cond) ∈ GW := gwt (i := 1199) (by decide +kernel) (by decide +kernel)
theorem w1200 : ((Jvm.Cond.instanceMethod ⟨"EchoGorge$Truth","find","(LEchoGorge$Gorge;LEchoGorge$Scene;LEchoGorge$Hearing;LEchoGorge$Returns;)V"⟩) : Cond) ∈ GW := gwt (i := 1200) (by decide +kernel) (by decide +kernel)
theorem w1201 : ((Jvm.Cond.selects "EchoGorge$Truth" ⟨"EchoGorge$Truth","find","(LEchoGorge$Gorge;LEchoGorge$Scene;LEchoGorge$Hearing;LEchoGorge$Returns;)V"⟩ ⟨"EchoGorge$Truth","find","(LEchoGorge$Gorge;LEchoGorge$Scene;LEchoGorge$Hearing;LEchoGorge$Returns;)V"⟩) : Cond) ∈ GW := gwt (i := 1201) (by decide +kernel) (by decide +kernel)
theorem w1202 : ((Jvm.Cond.code ⟨"EchoGorge$Truth","find","(LEchoGorge$Gorge;LEchoGorge$Scene;LEchoGorge$Hearing;LEchoGorge$Returns;)V"⟩ prog_11_method_3_code 6 (Option.none : Option Jvm.ClassFile.FieldType)) : Cond) ∈ GW := gwt (i := 1202) (by decide +kernel) (by decide +kernel)
theorem w1203 : ((Jvm.Cond.methodLink "EchoGorge$Truth" 41 ⟨"java/util/Arrays","fill","([II)V"⟩) : Cond) ∈ GW := gwt (i := 1203) (by decide +kernel) (by decide +kernel)
theorem w1204 : ((Jvm.Cond.methodLink "EchoGorge$Truth" 56 ⟨"EchoGorge$Truth","isHeardAsTold","(III)Z"⟩) : Cond) ∈ GW := gwt (i := 1204) (by decide +kernel) (by decide +kernel)
theorem w1206 : ((Jvm.Cond.instanceMethod ⟨"EchoGorge$Truth","isHeardAsTold","(III)Z"⟩) : Cond) ∈ GW := gwt (i := 1206) (by decide +kernel) (by decide +kernel)
theorem w1207 : ((Jvm.Cond.code ⟨"EchoGorge$Truth","isHeardAsTold","(III)Z"⟩ prog_11_method_5_code 5 (Option.some Jvm.ClassFile.FieldType.boolean)) : Cond) ∈ GW := gwt (i := 1207) (by decide +kernel) (by decide +kernel)
theorem w1208 : ((Jvm.Cond.methodLink "EchoGorge$Truth" 74 ⟨"EchoGorge$Hearing","attend","(LEchoGorge$Gorge;LEchoGorge$Returns;[II)V"⟩) : Cond) ∈ GW := gwt (i := 1208) (by decide +kernel) (by decide +kernel)
theorem w1209 : ((Jvm.Cond.methodLink "EchoGorge$Truth" 80 ⟨"EchoGorge$Hearing","measure","(I)V"⟩) : Cond) ∈ GW := gwt (i := 1209) (by decide +kernel) (by decide +kernel)
theorem w1210 : ((Jvm.Cond.methodLink "EchoGorge$Truth" 83 ⟨"EchoGorge$Hearing","hears","(I)I"⟩) : Cond) ∈ GW := gwt (i := 1210) (by decide +kernel) (by decide +kernel)
theorem w1211 : ((Jvm.Cond.methodLink "EchoGorge$Truth" 60 ⟨"EchoGorge$Truth","search","(III)V"⟩) : Cond) ∈ GW := gwt (i := 1211) (by decide +kernel) (by decide +kernel)
theorem w1213 : ((Jvm.Cond.instanceMethod ⟨"EchoGorge$Truth","search","(III)V"⟩) : Cond) ∈ GW := gwt (i := 1213) (by decide +kernel) (by decide +kernel)
theorem w1214 : ((Jvm.Cond.code ⟨"EchoGorge$Truth","search","(III)V"⟩ prog_11_method_4_code 6 (Option.none : Option Jvm.ClassFile.FieldType)) : Cond) ∈ GW := gwt (i := 1214) (by decide +kernel) (by decide +kernel)
theorem w1215 : ((Jvm.Cond.methodLink "EchoGorge$Truth" 64 ⟨"EchoGorge$Truth","take","(I)V"⟩) : Cond) ∈ GW := gwt (i := 1215) (by decide +kernel) (by decide +kernel)
theorem w1217 : ((Jvm.Cond.instanceMethod ⟨"EchoGorge$Truth","take","(I)V"⟩) : Cond) ∈ GW := gwt (i := 1217) (by decide +kernel) (by decide +kernel)
theorem w1218 : ((Jvm.Cond.code ⟨"EchoGorge$Truth","take","(I)V"⟩ prog_11_method_6_code 3 (Option.none : Option Jvm.ClassFile.FieldType)) : Cond) ∈ GW := gwt (i := 1218) (by decide +kernel) (by decide +kernel)
theorem w1219 : ((Jvm.Cond.methodLink "EchoGorge$Truth" 87 ⟨"java/lang/Integer","bitCount","(I)I"⟩) : Cond) ∈ GW := gwt (i := 1219) (by decide +kernel) (by decide +kernel)
theorem w1220 : ((Jvm.Cond.methodLink "EchoGorge$Truth" 68 ⟨"java/lang/Math","max","(II)I"⟩) : Cond) ∈ GW := gwt (i := 1220) (by decide +kernel) (by decide +kernel)
theorem w1221 : ((Jvm.Cond.methodLink "EchoGorgeLaw" 163 ⟨"EchoGorgeLaw","stand","(LEchoGorge;III[J)I"⟩) : Cond) ∈ GW := gwt (i := 1221) (by decide +kernel) (by decide +kernel)
theorem w1222 : ((Jvm.Cond.static ⟨"EchoGorgeLaw","stand","(LEchoGorge;III[J)I"⟩) : Cond) ∈ GW := gwt (i := 1222) (by decide +kernel) (by decide +kernel)
theorem w1223 : ((Jvm.Cond.codeWith ⟨"EchoGorgeLaw","stand","(LEchoGorge;III[J)I"⟩ method_20_code 6 (Option.some Jvm.ClassFile.FieldType.int) [(0, 19, 22, 18)]) : Cond) ∈ GW := gwt (i := 1223) (by decide +kernel) (by decide +kernel)
theorem w1224 : ((Jvm.Cond.methodLink "EchoGorgeLaw" 68 ⟨"EchoGorge","stand","(III)Z"⟩) : Cond) ∈ GW := gwt (i := 1224) (by decide +kernel) (by decide +kernel)
theorem w1225 : ((Jvm.Cond.instanceMethod ⟨"EchoGorge","stand","(III)Z"⟩) : Cond) ∈ GW := gwt (i := 1225) (by decide +kernel) (by decide +kernel)
theorem w1226 : ((Jvm.Cond.selects "EchoGorge" ⟨"EchoGorge","stand","(III)Z"⟩ ⟨"EchoGorge","stand","(III)Z"⟩) : Cond) ∈ GW := gwt (i := 1226) (by decide +kernel) (by decide +kernel)
theorem w1227 : ((Jvm.Cond.code ⟨"EchoGorge","stand","(III)Z"⟩ prog_1_method_24_code 4 (Option.some Jvm.ClassFile.FieldType.boolean)) : Cond) ∈ GW := gwt (i := 1227) (by decide +kernel) (by decide +kernel)
theorem w1228 : ((Jvm.Cond.methodLink "EchoGorgeLaw" 166 ⟨"EchoGorgeLaw","matching","(LEchoGorge;III[J)I"⟩) : Cond) ∈ GW := gwt (i := 1228) (by decide +kernel) (by decide +kernel)
theorem w1229 : ((Jvm.Cond.static ⟨"EchoGorgeLaw","matching","(LEchoGorge;III[J)I"⟩) : Cond) ∈ GW := gwt (i := 1229) (by decide +kernel) (by decide +kernel)
theorem w1230 : ((Jvm.Cond.codeWith ⟨"EchoGorgeLaw","matching","(LEchoGorge;III[J)I"⟩ method_21_code 6 (Option.some Jvm.ClassFile.FieldType.int) [(0, 12, 15, 18)]) : Cond) ∈ GW := gwt (i := 1230) (by decide +kernel) (by decide +kernel)
theorem w1231 : ((Jvm.Cond.methodLink "EchoGorgeLaw" 72 ⟨"EchoGorge","matching","(III)I"⟩) : Cond) ∈ GW := gwt (i := 1231) (by decide +kernel) (by decide +kernel)
theorem w1232 : ((Jvm.Cond.instanceMethod ⟨"EchoGorge","matching","(III)I"⟩) : Cond) ∈ GW := gwt (i := 1232) (by decide +kernel) (by decide +kernel)
theorem w1233 : ((Jvm.Cond.selects "EchoGorge" ⟨"EchoGorge","matching","(III)I"⟩ ⟨"EchoGorge","matching","(III)I"⟩) : Cond) ∈ GW := gwt (i := 1233) (by decide +kernel) (by decide +kernel)
theorem w1234 : ((Jvm.Cond.code ⟨"EchoGorge","matching","(III)I"⟩ prog_1_method_25_code 5 (Option.some Jvm.ClassFile.FieldType.int)) : Cond) ∈ GW := gwt (i := 1234) (by decide +kernel) (by decide +kernel)
theorem w1235 : ((Jvm.Cond.methodLink "EchoGorge" 296 ⟨"EchoGorge$Places","countMatching","(LEchoGorge$Scene;II)I"⟩) : Cond) ∈ GW := gwt (i := 1235) (by decide +kernel) (by decide +kernel)
theorem w1236 : ((Jvm.Cond.instanceMethod ⟨"EchoGorge$Places","countMatching","(LEchoGorge$Scene;II)I"⟩) : Cond) ∈ GW := gwt (i := 1236) (by decide +kernel) (by decide +kernel)
theorem w1237 : ((Jvm.Cond.selects "EchoGorge$Places" ⟨"EchoGorge$Places","countMatching","(LEchoGorge$Scene;II)I"⟩ ⟨"EchoGorge$Places","countMatching","(LEchoGorge$Scene;II)I"⟩) : Cond) ∈ GW := gwt (i := 1237) (by decide +kernel) (by decide +kernel)
theorem w1238 : ((Jvm.Cond.code ⟨"EchoGorge$Places","countMatching","(LEchoGorge$Scene;II)I"⟩ prog_7_method_4_code 6 (Option.some Jvm.ClassFile.FieldType.int)) : Cond) ∈ GW := gwt (i := 1238) (by decide +kernel) (by decide +kernel)
theorem w1239 : ((Jvm.Cond.methodLink "EchoGorge$Places" 36 ⟨"EchoGorge$Places","matches","(LEchoGorge$Scene;IIII)Z"⟩) : Cond) ∈ GW := gwt (i := 1239) (by decide +kernel) (by decide +kernel)
theorem w1241 : ((Jvm.Cond.instanceMethod ⟨"EchoGorge$Places","matches","(LEchoGorge$Scene;IIII)Z"⟩) : Cond) ∈ GW := gwt (i := 1241) (by decide +kernel) (by decide +kernel)
theorem w1242 : ((Jvm.Cond.code ⟨"EchoGorge$Places","matches","(LEchoGorge$Scene;IIII)Z"⟩ prog_7_method_3_code 7 (Option.some Jvm.ClassFile.FieldType.boolean)) : Cond) ∈ GW := gwt (i := 1242) (by decide +kernel) (by decide +kernel)
theorem w1243 : ((Jvm.Cond.methodLink "EchoGorge$Places" 32 ⟨"EchoGorge$Places","ticksTo","(LEchoGorge$Scene;III)I"⟩) : Cond) ∈ GW := gwt (i := 1243) (by decide +kernel) (by decide +kernel)
theorem w1245 : ((Jvm.Cond.instanceMethod ⟨"EchoGorge$Places","ticksTo","(LEchoGorge$Scene;III)I"⟩) : Cond) ∈ GW := gwt (i := 1245) (by decide +kernel) (by decide +kernel)
theorem w1246 : ((Jvm.Cond.code ⟨"EchoGorge$Places","ticksTo","(LEchoGorge$Scene;III)I"⟩ prog_7_method_2_code 5 (Option.some Jvm.ClassFile.FieldType.int)) : Cond) ∈ GW := gwt (i := 1246) (by decide +kernel) (by decide +kernel)
theorem w1247 : ((Jvm.Cond.methodLink "EchoGorge$Places" 23 ⟨"java/lang/Math","abs","(I)I"⟩) : Cond) ∈ GW := gwt (i := 1247) (by decide +kernel) (by decide +kernel)
theorem w1248 : ((Jvm.Cond.static ⟨"java/lang/Math","abs","(I)I"⟩) : Cond) ∈ GW := gwt (i := 1248) (by decide +kernel) (by decide +kernel)
theorem w1249 : (Cond.code Lib.Math.abs.name Lib.Math.abs.code 1 (some .int) : Cond) ∈ GW := gwt (i := 1249) (by decide +kernel) (by decide +kernel)
theorem w1250 : ((Jvm.Cond.methodLink "EchoGorge" 300 ⟨"EchoGorge$Places","findMatching","(LEchoGorge$Scene;III)I"⟩) : Cond) ∈ GW := gwt (i := 1250) (by decide +kernel) (by decide +kernel)
theorem w1251 : ((Jvm.Cond.instanceMethod ⟨"EchoGorge$Places","findMatching","(LEchoGorge$Scene;III)I"⟩) : Cond) ∈ GW := gwt (i := 1251) (by decide +kernel) (by decide +kernel)
theorem w1252 : ((Jvm.Cond.selects "EchoGorge$Places" ⟨"EchoGorge$Places","findMatching","(LEchoGorge$Scene;III)I"⟩ ⟨"EchoGorge$Places","findMatching","(LEchoGorge$Scene;III)I"⟩) : Cond) ∈ GW := gwt (i := 1252) (by decide +kernel) (by decide +kernel)
theorem w1253 : ((Jvm.Cond.code ⟨"EchoGorge$Places","findMatching","(LEchoGorge$Scene;III)I"⟩ prog_7_method_5_code 7 (Option.some Jvm.ClassFile.FieldType.int)) : Cond) ∈ GW := gwt (i := 1253) (by decide +kernel) (by decide +kernel)
theorem w1254 : ((Jvm.Cond.methodLink "EchoGorgeLaw" 169 ⟨"EchoGorgeLaw","moved","(LEchoGorge;IIIII[J)I"⟩) : Cond) ∈ GW := gwt (i := 1254) (by decide +kernel) (by decide +kernel)
theorem w1255 : ((Jvm.Cond.static ⟨"EchoGorgeLaw","moved","(LEchoGorge;IIIII[J)I"⟩) : Cond) ∈ GW := gwt (i := 1255) (by decide +kernel) (by decide +kernel)
theorem w1256 : ((Jvm.Cond.codeWith ⟨"EchoGorgeLaw","moved","(LEchoGorge;IIIII[J)I"⟩ method_22_code 8 (Option.some Jvm.ClassFile.FieldType.int) [(0, 16, 19, 13)]) : Cond) ∈ GW := gwt (i := 1256) (by decide +kernel) (by decide +kernel)
theorem w1257 : ((Jvm.Cond.methodLink "EchoGorgeLaw" 75 ⟨"EchoGorge","moved","(IIIII)I"⟩) : Cond) ∈ GW := gwt (i := 1257) (by decide +kernel) (by decide +kernel)
theorem w1258 : ((Jvm.Cond.instanceMethod ⟨"EchoGorge","moved","(IIIII)I"⟩) : Cond) ∈ GW := gwt (i := 1258) (by decide +kernel) (by decide +kernel)
theorem w1259 : ((Jvm.Cond.selects "EchoGorge" ⟨"EchoGorge","moved","(IIIII)I"⟩ ⟨"EchoGorge","moved","(IIIII)I"⟩) : Cond) ∈ GW := gwt (i := 1259) (by decide +kernel) (by decide +kernel)
theorem w1260 : ((Jvm.Cond.code ⟨"EchoGorge","moved","(IIIII)I"⟩ prog_1_method_26_code 6 (Option.some Jvm.ClassFile.FieldType.int)) : Cond) ∈ GW := gwt (i := 1260) (by decide +kernel) (by decide +kernel)
theorem w1261 : ((Jvm.Cond.methodLink "EchoGorge" 304 ⟨"EchoGorge$Places","chart","(LEchoGorge$Scene;II)V"⟩) : Cond) ∈ GW := gwt (i := 1261) (by decide +kernel) (by decide +kernel)
theorem w1262 : ((Jvm.Cond.instanceMethod ⟨"EchoGorge$Places","chart","(LEchoGorge$Scene;II)V"⟩) : Cond) ∈ GW := gwt (i := 1262) (by decide +kernel) (by decide +kernel)
theorem w1263 : ((Jvm.Cond.selects "EchoGorge$Places" ⟨"EchoGorge$Places","chart","(LEchoGorge$Scene;II)V"⟩ ⟨"EchoGorge$Places","chart","(LEchoGorge$Scene;II)V"⟩) : Cond) ∈ GW := gwt (i := 1263) (by decide +kernel) (by decide +kernel)
theorem w1264 : ((Jvm.Cond.code ⟨"EchoGorge$Places","chart","(LEchoGorge$Scene;II)V"⟩ prog_7_method_6_code 7 (Option.none : Option Jvm.ClassFile.FieldType)) : Cond) ∈ GW := gwt (i := 1264) (by decide +kernel) (by decide +kernel)
theorem w1265 : ((Jvm.Cond.methodLink "EchoGorge" 308 ⟨"EchoGorge$Places","countCouples","(LEchoGorge$Scene;III)I"⟩) : Cond) ∈ GW := gwt (i := 1265) (by decide +kernel) (by decide +kernel)
theorem w1266 : ((Jvm.Cond.instanceMethod ⟨"EchoGorge$Places","countCouples","(LEchoGorge$Scene;III)I"⟩) : Cond) ∈ GW := gwt (i := 1266) (by decide +kernel) (by decide +kernel)
theorem w1267 : ((Jvm.Cond.selects "EchoGorge$Places" ⟨"EchoGorge$Places","countCouples","(LEchoGorge$Scene;III)I"⟩ ⟨"EchoGorge$Places","countCouples","(LEchoGorge$Scene;III)I"⟩) : Cond) ∈ GW := gwt (i := 1267) (by decide +kernel) (by decide +kernel)
theorem w1268 : ((Jvm.Cond.code ⟨"EchoGorge$Places","countCouples","(LEchoGorge$Scene;III)I"⟩ prog_7_method_7_code 8 (Option.some Jvm.ClassFile.FieldType.int)) : Cond) ∈ GW := gwt (i := 1268) (by decide +kernel) (by decide +kernel)
theorem w1269 : ((Jvm.Cond.methodLink "EchoGorge$Places" 40 ⟨"EchoGorge$Places","chartedNear","(III)I"⟩) : Cond) ∈ GW := gwt (i := 1269) (by decide +kernel) (by decide +kernel)
theorem w1271 : ((Jvm.Cond.instanceMethod ⟨"EchoGorge$Places","chartedNear","(III)I"⟩) : Cond) ∈ GW := gwt (i := 1271) (by decide +kernel) (by decide +kernel)
theorem w1272 : ((Jvm.Cond.code ⟨"EchoGorge$Places","chartedNear","(III)I"⟩ prog_7_method_8_code 10 (Option.some Jvm.ClassFile.FieldType.int)) : Cond) ∈ GW := gwt (i := 1272) (by decide +kernel) (by decide +kernel)
theorem w1273 : ((Jvm.Cond.methodLink "EchoGorge$Places" 44 ⟨"java/lang/Math","min","(II)I"⟩) : Cond) ∈ GW := gwt (i := 1273) (by decide +kernel) (by decide +kernel)
theorem w1274 : ((Jvm.Cond.methodLink "EchoGorge$Places" 48 ⟨"java/lang/Math","max","(II)I"⟩) : Cond) ∈ GW := gwt (i := 1274) (by decide +kernel) (by decide +kernel)
theorem w1275 : ((Jvm.Cond.methodLink "EchoGorgeLaw" 173 ⟨"EchoGorgeLaw","code","(LEchoGorge;II[J)I"⟩) : Cond) ∈ GW := gwt (i := 1275) (by decide +kernel) (by decide +kernel)
theorem w1276 : ((Jvm.Cond.static ⟨"EchoGorgeLaw","code","(LEchoGorge;II[J)I"⟩) : Cond) ∈ GW := gwt (i := 1276) (by decide +kernel) (by decide +kernel)
theorem w1277 : ((Jvm.Cond.codeWith ⟨"EchoGorgeLaw","code","(LEchoGorge;II[J)I"⟩ method_23_code 5 (Option.some Jvm.ClassFile.FieldType.int) [(0, 10, 13, 18)]) : Cond) ∈ GW := gwt (i := 1277) (by decide +kernel) (by decide +kernel)
theorem w1278 : ((Jvm.Cond.methodLink "EchoGorgeLaw" 79 ⟨"EchoGorge","code","(II)I"⟩) : Cond) ∈ GW := gwt (i := 1278) (by decide +kernel) (by decide +kernel)
theorem w1279 : ((Jvm.Cond.instanceMethod ⟨"EchoGorge","code","(II)I"⟩) : Cond) ∈ GW := gwt (i := 1279) (by decide +kernel) (by decide +kernel)
theorem w1280 : ((Jvm.Cond.selects "EchoGorge" ⟨"EchoGorge","code","(II)I"⟩ ⟨"EchoGorge","code","(II)I"⟩) : Cond) ∈ GW := gwt (i := 1280) (by decide +kernel) (by decide +kernel)
theorem w1281 : ((Jvm.Cond.code ⟨"EchoGorge","code","(II)I"⟩ prog_1_method_27_code 4 (Option.some Jvm.ClassFile.FieldType.int)) : Cond) ∈ GW := gwt (i := 1281) (by decide +kernel) (by decide +kernel)
theorem w1282 : ((Jvm.Cond.methodLink "EchoGorge" 311 ⟨"EchoGorge$Claps","compare","(LEchoGorge$Gorge;LEchoGorge$Hearing;LEchoGorge$Returns;I)V"⟩) : Cond) ∈ GW := gwt (i := 1282) (by decide +kernel) (by decide +kernel)
theorem w1283 : ((Jvm.Cond.instanceMethod ⟨"EchoGorge$Claps","compare","(LEchoGorge$Gorge;LEchoGorge$Hearing;LEchoGorge$Returns;I)V"⟩) : Cond) ∈ GW := gwt (i := 1283) (by decide +kernel) (by decide +kernel)
theorem w1284 : ((Jvm.Cond.selects "EchoGorge$Claps" ⟨"EchoGorge$Claps","compare","(LEchoGorge$Gorge;LEchoGorge$Hearing;LEchoGorge$Returns;I)V"⟩ ⟨"EchoGorge$Claps","compare","(LEchoGorge$Gorge;LEchoGorge$Hearing;LEchoGorge$Returns;I)V"⟩) : Cond) ∈ GW := gwt (i := 1284) (by decide +kernel) (by decide +kernel)
theorem w1285 : ((Jvm.Cond.code ⟨"EchoGorge$Claps","compare","(LEchoGorge$Gorge;LEchoGorge$Hearing;LEchoGorge$Returns;I)V"⟩ prog_3_method_2_code 9 (Option.none : Option Jvm.ClassFile.FieldType)) : Cond) ∈ GW := gwt (i := 1285) (by decide +kernel) (by decide +kernel)
theorem w1286 : ((Jvm.Cond.methodLink "EchoGorge$Claps" 18 ⟨"java/util/Arrays","fill","([II)V"⟩) : Cond) ∈ GW := gwt (i := 1286) (by decide +kernel) (by decide +kernel)
theorem w1287 : ((Jvm.Cond.methodLink "EchoGorge$Claps" 24 ⟨"EchoGorge$Hearing","attend","(LEchoGorge$Gorge;LEchoGorge$Returns;[II)V"⟩) : Cond) ∈ GW := gwt (i := 1287) (by decide +kernel) (by decide +kernel)
theorem w1288 : ((Jvm.Cond.methodLink "EchoGorge$Claps" 30 ⟨"EchoGorge$Claps","heardGaps","(LEchoGorge$Hearing;)I"⟩) : Cond) ∈ GW := gwt (i := 1288) (by decide +kernel) (by decide +kernel)
theorem w1290 : ((Jvm.Cond.instanceMethod ⟨"EchoGorge$Claps","heardGaps","(LEchoGorge$Hearing;)I"⟩) : Cond) ∈ GW := gwt (i := 1290) (by decide +kernel) (by decide +kernel)
theorem w1291 : ((Jvm.Cond.code ⟨"EchoGorge$Claps","heardGaps","(LEchoGorge$Hearing;)I"⟩ prog_3_method_3_code 4 (Option.some Jvm.ClassFile.FieldType.int)) : Cond) ∈ GW := gwt (i := 1291) (by decide +kernel) (by decide +kernel)
theorem w1292 : ((Jvm.Cond.methodLink "EchoGorge$Claps" 34 ⟨"EchoGorge$Hearing","measure","(I)V"⟩) : Cond) ∈ GW := gwt (i := 1292) (by decide +kernel) (by decide +kernel)
theorem w1293 : ((Jvm.Cond.methodLink "EchoGorge$Claps" 38 ⟨"EchoGorge$Hearing","hears","(I)I"⟩) : Cond) ∈ GW := gwt (i := 1293) (by decide +kernel) (by decide +kernel)
theorem w1294 : ((Jvm.Cond.methodLink "EchoGorge" 318 ⟨"EchoGorge$Claps","choose","()I"⟩) : Cond) ∈ GW := gwt (i := 1294) (by decide +kernel) (by decide +kernel)
theorem w1295 : ((Jvm.Cond.instanceMethod ⟨"EchoGorge$Claps","choose","()I"⟩) : Cond) ∈ GW := gwt (i := 1295) (by decide +kernel) (by decide +kernel)
theorem w1296 : ((Jvm.Cond.selects "EchoGorge$Claps" ⟨"EchoGorge$Claps","choose","()I"⟩ ⟨"EchoGorge$Claps","choose","()I"⟩) : Cond) ∈ GW := gwt (i := 1296) (by decide +kernel) (by decide +kernel)
theorem w1297 : ((Jvm.Cond.code ⟨"EchoGorge$Claps","choose","()I"⟩ prog_3_method_4_code 1 (Option.some Jvm.ClassFile.FieldType.int)) : Cond) ∈ GW := gwt (i := 1297) (by decide +kernel) (by decide +kernel)
theorem w1298 : ((Jvm.Cond.constant "EchoGorge$Claps" 52 (65535 : Int32)) : Cond) ∈ GW := gwt (i := 1298) (by decide +kernel) (by decide +kernel)
theorem w1299 : ((Jvm.Cond.methodLink "EchoGorge$Claps" 53 ⟨"EchoGorge$Claps","extend","(II)V"⟩) : Cond) ∈ GW := gwt (i := 1299) (by decide +kernel) (by decide +kernel)
theorem w1301 : ((Jvm.Cond.instanceMethod ⟨"EchoGorge$Claps","extend","(II)V"⟩) : Cond) ∈ GW := gwt (i := 1301) (by decide +kernel) (by decide +kernel)
theorem w1302 : ((Jvm.Cond.code ⟨"EchoGorge$Claps","extend","(II)V"⟩ prog_3_method_5_code 5 (Option.none : Option Jvm.ClassFile.FieldType)) : Cond) ∈ GW := gwt (i := 1302) (by decide +kernel) (by decide +kernel)
theorem w1303 : ((Jvm.Cond.methodLink "EchoGorge$Claps" 57 ⟨"java/lang/Integer","bitCount","(I)I"⟩) : Cond) ∈ GW := gwt (i := 1303) (by decide +kernel) (by decide +kernel)
theorem w1304 : ((Jvm.Cond.methodLink "EchoGorge$Claps" 62 ⟨"EchoGorge$Claps","weigh","(I)V"⟩) : Cond) ∈ GW := gwt (i := 1304) (by decide +kernel) (by decide +kernel)
theorem w1306 : ((Jvm.Cond.instanceMethod ⟨"EchoGorge$Claps","weigh","(I)V"⟩) : Cond) ∈ GW := gwt (i := 1306) (by decide +kernel) (by decide +kernel)
theorem w1307 : ((Jvm.Cond.code ⟨"EchoGorge$Claps","weigh","(I)V"⟩ prog_3_method_6_code 5 (Option.none : Option Jvm.ClassFile.FieldType)) : Cond) ∈ GW := gwt (i := 1307) (by decide +kernel) (by decide +kernel)
theorem w1315 : ((Jvm.Cond.fieldLink "EchoGorgeModel" 136 "EchoGorgeModel" "thrown" "I") : Cond) ∈ GW := gwt (i := 1315) (by decide +kernel) (by decide +kernel)
theorem w1316 : ((Jvm.Cond.fieldLink "EchoGorgeModel" 267 "EchoGorgeModel" "sounds" "I") : Cond) ∈ GW := gwt (i := 1316) (by decide +kernel) (by decide +kernel)
theorem w1317 : ((Jvm.Cond.fieldLink "EchoGorgeModel" 270 "EchoGorgeModel" "walls" "I") : Cond) ∈ GW := gwt (i := 1317) (by decide +kernel) (by decide +kernel)
theorem w1318 : ((Jvm.Cond.fieldLink "EchoGorgeModel" 273 "EchoGorgeModel" "words" "I") : Cond) ∈ GW := gwt (i := 1318) (by decide +kernel) (by decide +kernel)
theorem w1319 : ((Jvm.Cond.fieldLink "EchoGorgeModel" 276 "EchoGorgeModel" "forms" "I") : Cond) ∈ GW := gwt (i := 1319) (by decide +kernel) (by decide +kernel)
theorem w1320 : ((Jvm.Cond.fieldLink "EchoGorgeModel" 7 "EchoGorgeModel" "least" "I") : Cond) ∈ GW := gwt (i := 1320) (by decide +kernel) (by decide +kernel)
theorem w1321 : ((Jvm.Cond.fieldLink "EchoGorgeModel" 279 "EchoGorgeModel" "window" "I") : Cond) ∈ GW := gwt (i := 1321) (by decide +kernel) (by decide +kernel)
theorem w1322 : ((Jvm.Cond.fieldLink "EchoGorgeModel" 282 "EchoGorgeModel" "margin" "I") : Cond) ∈ GW := gwt (i := 1322) (by decide +kernel) (by decide +kernel)
theorem w1323 : ((Jvm.Cond.fieldLink "EchoGorgeModel" 13 "EchoGorgeModel" "sound" "[I") : Cond) ∈ GW := gwt (i := 1323) (by decide +kernel) (by decide +kernel)
theorem w1324 : ((Jvm.Cond.fieldLink "EchoGorgeModel" 17 "EchoGorgeModel" "wall" "[I") : Cond) ∈ GW := gwt (i := 1324) (by decide +kernel) (by decide +kernel)
theorem w1325 : ((Jvm.Cond.fieldLink "EchoGorgeModel" 20 "EchoGorgeModel" "word" "[I") : Cond) ∈ GW := gwt (i := 1325) (by decide +kernel) (by decide +kernel)
theorem w1326 : ((Jvm.Cond.fieldLink "EchoGorgeModel" 23 "EchoGorgeModel" "form" "[I") : Cond) ∈ GW := gwt (i := 1326) (by decide +kernel) (by decide +kernel)
theorem w1327 : ((Jvm.Cond.fieldLink "EchoGorgeModel" 26 "EchoGorgeModel" "straight" "[I") : Cond) ∈ GW := gwt (i := 1327) (by decide +kernel) (by decide +kernel)
theorem w1328 : ((Jvm.Cond.fieldLink "EchoGorgeModel" 29 "EchoGorgeModel" "air" "[I") : Cond) ∈ GW := gwt (i := 1328) (by decide +kernel) (by decide +kernel)
theorem w1329 : ((Jvm.Cond.fieldLink "EchoGorgeModel" 32 "EchoGorgeModel" "sweet" "[I") : Cond) ∈ GW := gwt (i := 1329) (by decide +kernel) (by decide +kernel)
theorem w1330 : ((Jvm.Cond.fieldLink "EchoGorgeModel" 35 "EchoGorgeModel" "tape" "[I") : Cond) ∈ GW := gwt (i := 1330) (by decide +kernel) (by decide +kernel)
theorem w1331 : ((Jvm.Cond.fieldLink "EchoGorgeModel" 139 "EchoGorgeModel" "taped" "I") : Cond) ∈ GW := gwt (i := 1331) (by decide +kernel) (by decide +kernel)
theorem w1332 : ((Jvm.Cond.fieldLink "EchoGorgeModel" 187 "EchoGorgeModel" "faultKind" "I") : Cond) ∈ GW := gwt (i := 1332) (by decide +kernel) (by decide +kernel)
theorem w1333 : ((Jvm.Cond.fieldLink "EchoGorgeModel" 38 "EchoGorgeModel" "faultPlace" "I") : Cond) ∈ GW := gwt (i := 1333) (by decide +kernel) (by decide +kernel)
theorem w1334 : ((Jvm.Cond.fieldLink "EchoGorgeModel" 41 "EchoGorgeModel" "refused" "[I") : Cond) ∈ GW := gwt (i := 1334) (by decide +kernel) (by decide +kernel)
theorem w1335 : ((Jvm.Cond.fieldLink "EchoGorgeModel" 146 "EchoGorgeModel" "size" "I") : Cond) ∈ GW := gwt (i := 1335) (by decide +kernel) (by decide +kernel)
theorem w1336 : ((Jvm.Cond.fieldLink "EchoGorgeModel" 149 "EchoGorgeModel" "next" "I") : Cond) ∈ GW := gwt (i := 1336) (by decide +kernel) (by decide +kernel)
theorem w1337 : ((Jvm.Cond.fieldLink "EchoGorgeModel" 166 "EchoGorgeModel" "sort" "I") : Cond) ∈ GW := gwt (i := 1337) (by decide +kernel) (by decide +kernel)
theorem w1338 : ((Jvm.Cond.fieldLink "EchoGorgeModel" 156 "EchoGorgeModel" "place" "I") : Cond) ∈ GW := gwt (i := 1338) (by decide +kernel) (by decide +kernel)
theorem w1339 : ((Jvm.Cond.fieldLink "EchoGorgeModel" 176 "EchoGorgeModel" "long0" "I") : Cond) ∈ GW := gwt (i := 1339) (by decide +kernel) (by decide +kernel)
theorem w1340 : ((Jvm.Cond.fieldLink "EchoGorgeModel" 163 "EchoGorgeModel" "value" "I") : Cond) ∈ GW := gwt (i := 1340) (by decide +kernel) (by decide +kernel)
theorem w1341 : ((Jvm.Cond.fieldLink "EchoGorgeModel" 159 "EchoGorgeModel" "letters" "J") : Cond) ∈ GW := gwt (i := 1341) (by decide +kernel) (by decide +kernel)
theorem w1342 : ((Jvm.Cond.fieldLink "EchoGorgeModel" 200 "EchoGorgeModel" "newSounds" "I") : Cond) ∈ GW := gwt (i := 1342) (by decide +kernel) (by decide +kernel)
theorem w1343 : ((Jvm.Cond.fieldLink "EchoGorgeModel" 203 "EchoGorgeModel" "newWalls" "I") : Cond) ∈ GW := gwt (i := 1343) (by decide +kernel) (by decide +kernel)
theorem w1344 : ((Jvm.Cond.fieldLink "EchoGorgeModel" 216 "EchoGorgeModel" "newWords" "I") : Cond) ∈ GW := gwt (i := 1344) (by decide +kernel) (by decide +kernel)
theorem w1345 : ((Jvm.Cond.fieldLink "EchoGorgeModel" 219 "EchoGorgeModel" "newForms" "I") : Cond) ∈ GW := gwt (i := 1345) (by decide +kernel) (by decide +kernel)
theorem w1346 : ((Jvm.Cond.fieldLink "EchoGorgeModel" 238 "EchoGorgeModel" "newLeast" "I") : Cond) ∈ GW := gwt (i := 1346) (by decide +kernel) (by decide +kernel)
theorem w1347 : ((Jvm.Cond.fieldLink "EchoGorgeModel" 241 "EchoGorgeModel" "newWindow" "I") : Cond) ∈ GW := gwt (i := 1347) (by decide +kernel) (by decide +kernel)
theorem w1348 : ((Jvm.Cond.fieldLink "EchoGorgeModel" 244 "EchoGorgeModel" "newMargin" "I") : Cond) ∈ GW := gwt (i := 1348) (by decide +kernel) (by decide +kernel)
theorem w1349 : ((Jvm.Cond.fieldLink "EchoGorgeModel" 222 "EchoGorgeModel" "airTold" "I") : Cond) ∈ GW := gwt (i := 1349) (by decide +kernel) (by decide +kernel)
theorem w1350 : ((Jvm.Cond.fieldLink "EchoGorgeModel" 228 "EchoGorgeModel" "hasStraight" "Z") : Cond) ∈ GW := gwt (i := 1350) (by decide +kernel) (by decide +kernel)
theorem w1351 : ((Jvm.Cond.fieldLink "EchoGorgeModel" 235 "EchoGorgeModel" "hasMask" "Z") : Cond) ∈ GW := gwt (i := 1351) (by decide +kernel) (by decide +kernel)
theorem w1352 : ((Jvm.Cond.fieldLink "EchoGorgeModel" 44 "EchoGorgeModel" "newSound" "[I") : Cond) ∈ GW := gwt (i := 1352) (by decide +kernel) (by decide +kernel)
theorem w1353 : ((Jvm.Cond.fieldLink "EchoGorgeModel" 47 "EchoGorgeModel" "newWall" "[I") : Cond) ∈ GW := gwt (i := 1353) (by decide +kernel) (by decide +kernel)
theorem w1354 : ((Jvm.Cond.fieldLink "EchoGorgeModel" 50 "EchoGorgeModel" "newWord" "[I") : Cond) ∈ GW := gwt (i := 1354) (by decide +kernel) (by decide +kernel)
theorem w1355 : ((Jvm.Cond.fieldLink "EchoGorgeModel" 53 "EchoGorgeModel" "newForm" "[I") : Cond) ∈ GW := gwt (i := 1355) (by decide +kernel) (by decide +kernel)
theorem w1356 : ((Jvm.Cond.fieldLink "EchoGorgeModel" 56 "EchoGorgeModel" "newStraight" "[I") : Cond) ∈ GW := gwt (i := 1356) (by decide +kernel) (by decide +kernel)
theorem w1357 : ((Jvm.Cond.fieldLink "EchoGorgeModel" 59 "EchoGorgeModel" "newAir" "[I") : Cond) ∈ GW := gwt (i := 1357) (by decide +kernel) (by decide +kernel)
theorem w1358 : ((Jvm.Cond.fieldLink "EchoGorgeModel" 62 "EchoGorgeModel" "newSweet" "[I") : Cond) ∈ GW := gwt (i := 1358) (by decide +kernel) (by decide +kernel)
theorem w1359 : ((Jvm.Cond.fieldLink "EchoGorgeModel" 65 "EchoGorgeModel" "loud" "[I") : Cond) ∈ GW := gwt (i := 1359) (by decide +kernel) (by decide +kernel)
theorem w1360 : ((Jvm.Cond.fieldLink "EchoGorgeModel" 309 "EchoGorgeModel" "reach" "I") : Cond) ∈ GW := gwt (i := 1360) (by decide +kernel) (by decide +kernel)
theorem w1361 : ((Jvm.Cond.fieldLink "EchoGorgeModel" 322 "EchoGorgeModel" "fog" "I") : Cond) ∈ GW := gwt (i := 1361) (by decide +kernel) (by decide +kernel)
theorem w1362 : ((Jvm.Cond.fieldLink "EchoGorgeModel" 68 "EchoGorgeModel" "without" "I") : Cond) ∈ GW := gwt (i := 1362) (by decide +kernel) (by decide +kernel)
theorem w1363 : ((Jvm.Cond.fieldLink "EchoGorgeModel" 312 "EchoGorgeModel" "atEar" "I") : Cond) ∈ GW := gwt (i := 1363) (by decide +kernel) (by decide +kernel)
theorem w1364 : ((Jvm.Cond.fieldLink "EchoGorgeModel" 315 "EchoGorgeModel" "atHour" "I") : Cond) ∈ GW := gwt (i := 1364) (by decide +kernel) (by decide +kernel)
theorem w1365 : ((Jvm.Cond.fieldLink "EchoGorgeModel" 289 "EchoGorgeModel" "said" "I") : Cond) ∈ GW := gwt (i := 1365) (by decide +kernel) (by decide +kernel)
theorem w1366 : ((Jvm.Cond.fieldLink "EchoGorgeModel" 71 "EchoGorgeModel" "saidSound" "[I") : Cond) ∈ GW := gwt (i := 1366) (by decide +kernel) (by decide +kernel)
theorem w1367 : ((Jvm.Cond.fieldLink "EchoGorgeModel" 74 "EchoGorgeModel" "saidTick" "[I") : Cond) ∈ GW := gwt (i := 1367) (by decide +kernel) (by decide +kernel)
theorem w1368 : ((Jvm.Cond.fieldLink "EchoGorgeModel" 353 "EchoGorgeModel" "lineForm" "I") : Cond) ∈ GW := gwt (i := 1368) (by decide +kernel) (by decide +kernel)
theorem w1369 : ((Jvm.Cond.fieldLink "EchoGorgeModel" 77 "EchoGorgeModel" "lineWord" "[I") : Cond) ∈ GW := gwt (i := 1369) (by decide +kernel) (by decide +kernel)
theorem w1370 : ((Jvm.Cond.fieldLink "EchoGorgeModel" 80 "EchoGorgeModel" "spoken" "[I") : Cond) ∈ GW := gwt (i := 1370) (by decide +kernel) (by decide +kernel)
theorem w1371 : ((Jvm.Cond.fieldLink "EchoGorgeModel" 83 "EchoGorgeModel" "back" "[I") : Cond) ∈ GW := gwt (i := 1371) (by decide +kernel) (by decide +kernel)
theorem w1372 : ((Jvm.Cond.fieldLink "EchoGorgeModel" 362 "EchoGorgeModel" "spokenLong" "I") : Cond) ∈ GW := gwt (i := 1372) (by decide +kernel) (by decide +kernel)
theorem w1373 : ((Jvm.Cond.fieldLink "EchoGorgeModel" 368 "EchoGorgeModel" "backLong" "I") : Cond) ∈ GW := gwt (i := 1373) (by decide +kernel) (by decide +kernel)
theorem w1374 : ((Jvm.Cond.fieldLink "EchoGorgeModel" 381 "EchoGorgeModel" "answering" "I") : Cond) ∈ GW := gwt (i := 1374) (by decide +kernel) (by decide +kernel)
theorem w1375 : ((Jvm.Cond.fieldLink "EchoGorgeModel" 384 "EchoGorgeModel" "echoed" "I") : Cond) ∈ GW := gwt (i := 1375) (by decide +kernel) (by decide +kernel)
theorem w1376 : ((Jvm.Cond.fieldLink "EchoGorgeModel" 387 "EchoGorgeModel" "plain" "I") : Cond) ∈ GW := gwt (i := 1376) (by decide +kernel) (by decide +kernel)
theorem w1377 : ((Jvm.Cond.fieldLink "EchoGorgeModel" 402 "EchoGorgeModel" "plainForm" "I") : Cond) ∈ GW := gwt (i := 1377) (by decide +kernel) (by decide +kernel)
theorem w1378 : ((Jvm.Cond.fieldLink "EchoGorgeModel" 390 "EchoGorgeModel" "beginnings" "I") : Cond) ∈ GW := gwt (i := 1378) (by decide +kernel) (by decide +kernel)
theorem w1379 : ((Jvm.Cond.fieldLink "EchoGorgeModel" 86 "EchoGorgeModel" "plainWord" "[I") : Cond) ∈ GW := gwt (i := 1379) (by decide +kernel) (by decide +kernel)
theorem w1380 : ((Jvm.Cond.fieldLink "EchoGorgeModel" 89 "EchoGorgeModel" "good" "[I") : Cond) ∈ GW := gwt (i := 1380) (by decide +kernel) (by decide +kernel)
theorem w1381 : ((Jvm.Cond.fieldLink "EchoGorgeModel" 295 "EchoGorgeModel" "roundLong" "I") : Cond) ∈ GW := gwt (i := 1381) (by decide +kernel) (by decide +kernel)
theorem w1382 : ((Jvm.Cond.fieldLink "EchoGorgeModel" 92 "EchoGorgeModel" "sung" "[I") : Cond) ∈ GW := gwt (i := 1382) (by decide +kernel) (by decide +kernel)
theorem w1383 : ((Jvm.Cond.fieldLink "EchoGorgeModel" 292 "EchoGorgeModel" "told" "I") : Cond) ∈ GW := gwt (i := 1383) (by decide +kernel) (by decide +kernel)
theorem w1384 : ((Jvm.Cond.fieldLink "EchoGorgeModel" 95 "EchoGorgeModel" "tells" "[I") : Cond) ∈ GW := gwt (i := 1384) (by decide +kernel) (by decide +kernel)
theorem w1385 : ((Jvm.Cond.fieldLink "EchoGorgeModel" 98 "EchoGorgeModel" "rival" "[I") : Cond) ∈ GW := gwt (i := 1385) (by decide +kernel) (by decide +kernel)
theorem w1386 : ((Jvm.Cond.fieldLink "EchoGorgeModel" 101 "EchoGorgeModel" "rows" "[J") : Cond) ∈ GW := gwt (i := 1386) (by decide +kernel) (by decide +kernel)
theorem w1387 : ((Jvm.Cond.fieldLink "EchoGorgeModel" 427 "EchoGorgeModel" "rivals" "I") : Cond) ∈ GW := gwt (i := 1387) (by decide +kernel) (by decide +kernel)
theorem w1388 : ((Jvm.Cond.fieldLink "EchoGorgeModel" 105 "EchoGorgeModel" "truly" "[I") : Cond) ∈ GW := gwt (i := 1388) (by decide +kernel) (by decide +kernel)
theorem w1389 : ((Jvm.Cond.fieldLink "EchoGorgeModel" 108 "EchoGorgeModel" "stands" "[I") : Cond) ∈ GW := gwt (i := 1389) (by decide +kernel) (by decide +kernel)
theorem w1390 : ((Jvm.Cond.fieldLink "EchoGorgeModel" 111 "EchoGorgeModel" "here" "[Z") : Cond) ∈ GW := gwt (i := 1390) (by decide +kernel) (by decide +kernel)
theorem w1391 : ((Jvm.Cond.fieldLink "EchoGorgeModel" 115 "EchoGorgeModel" "there" "[Z") : Cond) ∈ GW := gwt (i := 1391) (by decide +kernel) (by decide +kernel)
theorem w1392 : ((Jvm.Cond.fieldLink "EchoGorgeModel" 118 "EchoGorgeModel" "together" "[I") : Cond) ∈ GW := gwt (i := 1392) (by decide +kernel) (by decide +kernel)
theorem w1393 : ((Jvm.Cond.fieldLink "EchoGorgeModel" 298 "EchoGorgeModel" "hasImage" "Z") : Cond) ∈ GW := gwt (i := 1393) (by decide +kernel) (by decide +kernel)
theorem w1394 : ((Jvm.Cond.fieldLink "EchoGorgeModel" 458 "EchoGorgeModel" "imageSaid" "I") : Cond) ∈ GW := gwt (i := 1394) (by decide +kernel) (by decide +kernel)
theorem w1395 : ((Jvm.Cond.fieldLink "EchoGorgeModel" 461 "EchoGorgeModel" "imageTold" "I") : Cond) ∈ GW := gwt (i := 1395) (by decide +kernel) (by decide +kernel)
theorem w1396 : ((Jvm.Cond.fieldLink "EchoGorgeModel" 464 "EchoGorgeModel" "imageLong" "I") : Cond) ∈ GW := gwt (i := 1396) (by decide +kernel) (by decide +kernel)
theorem w1397 : ((Jvm.Cond.fieldLink "EchoGorgeModel" 121 "EchoGorgeModel" "imageSound" "[I") : Cond) ∈ GW := gwt (i := 1397) (by decide +kernel) (by decide +kernel)
theorem w1398 : ((Jvm.Cond.fieldLink "EchoGorgeModel" 124 "EchoGorgeModel" "imageTick" "[I") : Cond) ∈ GW := gwt (i := 1398) (by decide +kernel) (by decide +kernel)
theorem w1399 : ((Jvm.Cond.fieldLink "EchoGorgeModel" 127 "EchoGorgeModel" "imageTells" "[I") : Cond) ∈ GW := gwt (i := 1399) (by decide +kernel) (by decide +kernel)
theorem w1400 : ((Jvm.Cond.fieldLink "EchoGorgeModel" 130 "EchoGorgeModel" "imageSung" "[I") : Cond) ∈ GW := gwt (i := 1400) (by decide +kernel) (by decide +kernel)
theorem w1401 : ((Jvm.Cond.fieldLink "EchoGorgeModel" 133 "EchoGorgeModel" "imageStands" "[I") : Cond) ∈ GW := gwt (i := 1401) (by decide +kernel) (by decide +kernel)
theorem w1579 : ((Jvm.Cond.methodLink "EchoGorgeLaw" 96 ⟨"EchoGorgeModel","thrown","()I"⟩) : Cond) ∈ GW := gwt (i := 1579) (by decide +kernel) (by decide +kernel)
theorem w1580 : ((Jvm.Cond.instanceMethod ⟨"EchoGorgeModel","thrown","()I"⟩) : Cond) ∈ GW := gwt (i := 1580) (by decide +kernel) (by decide +kernel)
theorem w1581 : ((Jvm.Cond.selects "EchoGorgeModel" ⟨"EchoGorgeModel","thrown","()I"⟩ ⟨"EchoGorgeModel","thrown","()I"⟩) : Cond) ∈ GW := gwt (i := 1581) (by decide +kernel) (by decide +kernel)
theorem w1582 : ((Jvm.Cond.code ⟨"EchoGorgeModel","thrown","()I"⟩ prog_14_method_2_code 1 (Option.some Jvm.ClassFile.FieldType.int)) : Cond) ∈ GW := gwt (i := 1582) (by decide +kernel) (by decide +kernel)
theorem w1583 : ((Jvm.Cond.methodLink "EchoGorgeLaw" 89 ⟨"EchoGorgeModel","feed","(IIIII)I"⟩) : Cond) ∈ GW := gwt (i := 1583) (by decide +kernel) (by decide +kernel)
theorem w1584 : ((Jvm.Cond.instanceMethod ⟨"EchoGorgeModel","feed","(IIIII)I"⟩) : Cond) ∈ GW := gwt (i := 1584) (by decide +kernel) (by decide +kernel)
theorem w1585 : ((Jvm.Cond.selects "EchoGorgeModel" ⟨"EchoGorgeModel","feed","(IIIII)I"⟩ ⟨"EchoGorgeModel","feed","(IIIII)I"⟩) : Cond) ∈ GW := gwt (i := 1585) (by decide +kernel) (by decide +kernel)
theorem w1586 : ((Jvm.Cond.code ⟨"EchoGorgeModel","feed","(IIIII)I"⟩ prog_14_method_6_code 6 (Option.some Jvm.ClassFile.FieldType.int)) : Cond) ∈ GW := gwt (i := 1586) (by decide +kernel) (by decide +kernel)
theorem w1587 : ((Jvm.Cond.methodLink "EchoGorgeModel" 142 ⟨"EchoGorgeModel","lays","(I)V"⟩) : Cond) ∈ GW := gwt (i := 1587) (by decide +kernel) (by decide +kernel)
theorem w1589 : ((Jvm.Cond.instanceMethod ⟨"EchoGorgeModel","lays","(I)V"⟩) : Cond) ∈ GW := gwt (i := 1589) (by decide +kernel) (by decide +kernel)
theorem w1590 : ((Jvm.Cond.code ⟨"EchoGorgeModel","lays","(I)V"⟩ prog_14_method_7_code 3 (Option.none : Option Jvm.ClassFile.FieldType)) : Cond) ∈ GW := gwt (i := 1590) (by decide +kernel) (by decide +kernel)
theorem w1591 : ((Jvm.Cond.methodLink "EchoGorgeLaw" 95 ⟨"EchoGorgeModel","gorge","(I)I"⟩) : Cond) ∈ GW := gwt (i := 1591) (by decide +kernel) (by decide +kernel)
theorem w1592 : ((Jvm.Cond.instanceMethod ⟨"EchoGorgeModel","gorge","(I)I"⟩) : Cond) ∈ GW := gwt (i := 1592) (by decide +kernel) (by decide +kernel)
theorem w1593 : ((Jvm.Cond.selects "EchoGorgeModel" ⟨"EchoGorgeModel","gorge","(I)I"⟩ ⟨"EchoGorgeModel","gorge","(I)I"⟩) : Cond) ∈ GW := gwt (i := 1593) (by decide +kernel) (by decide +kernel)
theorem w1594 : ((Jvm.Cond.code ⟨"EchoGorgeModel","gorge","(I)I"⟩ prog_14_method_26_code 3 (Option.some Jvm.ClassFile.FieldType.int)) : Cond) ∈ GW := gwt (i := 1594) (by decide +kernel) (by decide +kernel)
theorem w1595 : ((Jvm.Cond.methodLink "EchoGorgeModel" 260 ⟨"EchoGorgeModel","right","(ZI)Z"⟩) : Cond) ∈ GW := gwt (i := 1595) (by decide +kernel) (by decide +kernel)
theorem w1597 : ((Jvm.Cond.instanceMethod ⟨"EchoGorgeModel","right","(ZI)Z"⟩) : Cond) ∈ GW := gwt (i := 1597) (by decide +kernel) (by decide +kernel)
theorem w1598 : ((Jvm.Cond.code ⟨"EchoGorgeModel","right","(ZI)Z"⟩ prog_14_method_3_code 3 (Option.some Jvm.ClassFile.FieldType.boolean)) : Cond) ∈ GW := gwt (i := 1598) (by decide +kernel) (by decide +kernel)
theorem w1599 : ((Jvm.Cond.methodLink "EchoGorgeModel" 194 ⟨"EchoGorgeModel","steps","()V"⟩) : Cond) ∈ GW := gwt (i := 1599) (by decide +kernel) (by decide +kernel)
theorem w1601 : ((Jvm.Cond.instanceMethod ⟨"EchoGorgeModel","steps","()V"⟩) : Cond) ∈ GW := gwt (i := 1601) (by decide +kernel) (by decide +kernel)
theorem w1602 : ((Jvm.Cond.code ⟨"EchoGorgeModel","steps","()V"⟩ prog_14_method_11_code 2 (Option.none : Option Jvm.ClassFile.FieldType)) : Cond) ∈ GW := gwt (i := 1602) (by decide +kernel) (by decide +kernel)
theorem w1603 : ((Jvm.Cond.methodLink "EchoGorgeModel" 152 ⟨"EchoGorgeModel","byteAt","(I)I"⟩) : Cond) ∈ GW := gwt (i := 1603) (by decide +kernel) (by decide +kernel)
theorem w1605 : ((Jvm.Cond.instanceMethod ⟨"EchoGorgeModel","byteAt","(I)I"⟩) : Cond) ∈ GW := gwt (i := 1605) (by decide +kernel) (by decide +kernel)
theorem w1606 : ((Jvm.Cond.code ⟨"EchoGorgeModel","byteAt","(I)I"⟩ prog_14_method_8_code 2 (Option.some Jvm.ClassFile.FieldType.int)) : Cond) ∈ GW := gwt (i := 1606) (by decide +kernel) (by decide +kernel)
theorem w1607 : ((Jvm.Cond.methodLink "EchoGorgeModel" 169 ⟨"EchoGorgeModel","isLetter","(I)Z"⟩) : Cond) ∈ GW := gwt (i := 1607) (by decide +kernel) (by decide +kernel)
theorem w1608 : ((Jvm.Cond.static ⟨"EchoGorgeModel","isLetter","(I)Z"⟩) : Cond) ∈ GW := gwt (i := 1608) (by decide +kernel) (by decide +kernel)
theorem w1609 : ((Jvm.Cond.code ⟨"EchoGorgeModel","isLetter","(I)Z"⟩ prog_14_method_9_code 1 (Option.some Jvm.ClassFile.FieldType.boolean)) : Cond) ∈ GW := gwt (i := 1609) (by decide +kernel) (by decide +kernel)
theorem w1610 : ((Jvm.Cond.methodLink "EchoGorgeModel" 173 ⟨"EchoGorgeModel","isDigit","(I)Z"⟩) : Cond) ∈ GW := gwt (i := 1610) (by decide +kernel) (by decide +kernel)
theorem w1611 : ((Jvm.Cond.static ⟨"EchoGorgeModel","isDigit","(I)Z"⟩) : Cond) ∈ GW := gwt (i := 1611) (by decide +kernel) (by decide +kernel)
theorem w1612 : ((Jvm.Cond.code ⟨"EchoGorgeModel","isDigit","(I)Z"⟩ prog_14_method_10_code 1 (Option.some Jvm.ClassFile.FieldType.boolean)) : Cond) ∈ GW := gwt (i := 1612) (by decide +kernel) (by decide +kernel)
theorem w1613 : ((Jvm.Cond.methodLink "EchoGorgeModel" 190 ⟨"EchoGorgeModel","isGood","()Z"⟩) : Cond) ∈ GW := gwt (i := 1613) (by decide +kernel) (by decide +kernel)
theorem w1615 : ((Jvm.Cond.instanceMethod ⟨"EchoGorgeModel","isGood","()Z"⟩) : Cond) ∈ GW := gwt (i := 1615) (by decide +kernel) (by decide +kernel)
theorem w1616 : ((Jvm.Cond.code ⟨"EchoGorgeModel","isGood","()Z"⟩ prog_14_method_16_code 1 (Option.some Jvm.ClassFile.FieldType.boolean)) : Cond) ∈ GW := gwt (i := 1616) (by decide +kernel) (by decide +kernel)
theorem w1617 : ((Jvm.Cond.methodLink "EchoGorgeModel" 264 ⟨"EchoGorgeModel","line","()V"⟩) : Cond) ∈ GW := gwt (i := 1617) (by decide +kernel) (by decide +kernel)
theorem w1619 : ((Jvm.Cond.instanceMethod ⟨"EchoGorgeModel","line","()V"⟩) : Cond) ∈ GW := gwt (i := 1619) (by decide +kernel) (by decide +kernel)
theorem w1620 : ((Jvm.Cond.code ⟨"EchoGorgeModel","line","()V"⟩ prog_14_method_25_code 1 (Option.none : Option Jvm.ClassFile.FieldType)) : Cond) ∈ GW := gwt (i := 1620) (by decide +kernel) (by decide +kernel)
theorem w1621 : ((Jvm.Cond.methodLink "EchoGorgeModel" 210 ⟨"EchoGorgeModel","is","(I)Z"⟩) : Cond) ∈ GW := gwt (i := 1621) (by decide +kernel) (by decide +kernel)
theorem w1623 : ((Jvm.Cond.instanceMethod ⟨"EchoGorgeModel","is","(I)Z"⟩) : Cond) ∈ GW := gwt (i := 1623) (by decide +kernel) (by decide +kernel)
theorem w1624 : ((Jvm.Cond.code ⟨"EchoGorgeModel","is","(I)Z"⟩ prog_14_method_14_code 2 (Option.some Jvm.ClassFile.FieldType.boolean)) : Cond) ∈ GW := gwt (i := 1624) (by decide +kernel) (by decide +kernel)
theorem w1625 : ((Jvm.Cond.methodLink "EchoGorgeModel" 183 ⟨"EchoGorgeModel","lettersOf","(I)J"⟩) : Cond) ∈ GW := gwt (i := 1625) (by decide +kernel) (by decide +kernel)
theorem w1626 : ((Jvm.Cond.static ⟨"EchoGorgeModel","lettersOf","(I)J"⟩) : Cond) ∈ GW := gwt (i := 1626) (by decide +kernel) (by decide +kernel)
theorem w1627 : ((Jvm.Cond.code ⟨"EchoGorgeModel","lettersOf","(I)J"⟩ prog_14_method_13_code 1 (Option.some Jvm.ClassFile.FieldType.long)) : Cond) ∈ GW := gwt (i := 1627) (by decide +kernel) (by decide +kernel)
theorem w1628 : ((Jvm.Cond.methodLink "EchoGorgeModel" 179 ⟨"EchoGorgeModel","spelled","(IIIIIIII)J"⟩) : Cond) ∈ GW := gwt (i := 1628) (by decide +kernel) (by decide +kernel)
theorem w1629 : ((Jvm.Cond.static ⟨"EchoGorgeModel","spelled","(IIIIIIII)J"⟩) : Cond) ∈ GW := gwt (i := 1629) (by decide +kernel) (by decide +kernel)
theorem w1630 : ((Jvm.Cond.code ⟨"EchoGorgeModel","spelled","(IIIIIIII)J"⟩ prog_14_method_12_code 10 (Option.some Jvm.ClassFile.FieldType.long)) : Cond) ∈ GW := gwt (i := 1630) (by decide +kernel) (by decide +kernel)
theorem w1631 : ((Jvm.Cond.methodLink "EchoGorgeModel" 197 ⟨"EchoGorgeModel","wrong","(I)V"⟩) : Cond) ∈ GW := gwt (i := 1631) (by decide +kernel) (by decide +kernel)
theorem w1633 : ((Jvm.Cond.instanceMethod ⟨"EchoGorgeModel","wrong","(I)V"⟩) : Cond) ∈ GW := gwt (i := 1633) (by decide +kernel) (by decide +kernel)
theorem w1634 : ((Jvm.Cond.code ⟨"EchoGorgeModel","wrong","(I)V"⟩ prog_14_method_15_code 2 (Option.none : Option Jvm.ClassFile.FieldType)) : Cond) ∈ GW := gwt (i := 1634) (by decide +kernel) (by decide +kernel)
theorem w1635 : ((Jvm.Cond.methodLink "EchoGorgeModel" 206 ⟨"EchoGorgeModel","number","(II)I"⟩) : Cond) ∈ GW := gwt (i := 1635) (by decide +kernel) (by decide +kernel)
theorem w1637 : ((Jvm.Cond.instanceMethod ⟨"EchoGorgeModel","number","(II)I"⟩) : Cond) ∈ GW := gwt (i := 1637) (by decide +kernel) (by decide +kernel)
theorem w1638 : ((Jvm.Cond.code ⟨"EchoGorgeModel","number","(II)I"⟩ prog_14_method_18_code 4 (Option.some Jvm.ClassFile.FieldType.int)) : Cond) ∈ GW := gwt (i := 1638) (by decide +kernel) (by decide +kernel)
theorem w1639 : ((Jvm.Cond.methodLink "EchoGorgeModel" 225 ⟨"EchoGorgeModel","readsWall","()V"⟩) : Cond) ∈ GW := gwt (i := 1639) (by decide +kernel) (by decide +kernel)
theorem w1641 : ((Jvm.Cond.instanceMethod ⟨"EchoGorgeModel","readsWall","()V"⟩) : Cond) ∈ GW := gwt (i := 1641) (by decide +kernel) (by decide +kernel)
theorem w1642 : ((Jvm.Cond.code ⟨"EchoGorgeModel","readsWall","()V"⟩ prog_14_method_20_code 4 (Option.none : Option Jvm.ClassFile.FieldType)) : Cond) ∈ GW := gwt (i := 1642) (by decide +kernel) (by decide +kernel)
theorem w1643 : ((Jvm.Cond.methodLink "EchoGorgeModel" 232 ⟨"EchoGorgeModel","readsAir","()V"⟩) : Cond) ∈ GW := gwt (i := 1643) (by decide +kernel) (by decide +kernel)
theorem w1645 : ((Jvm.Cond.instanceMethod ⟨"EchoGorgeModel","readsAir","()V"⟩) : Cond) ∈ GW := gwt (i := 1645) (by decide +kernel) (by decide +kernel)
theorem w1646 : ((Jvm.Cond.code ⟨"EchoGorgeModel","readsAir","()V"⟩ prog_14_method_24_code 2 (Option.none : Option Jvm.ClassFile.FieldType)) : Cond) ∈ GW := gwt (i := 1646) (by decide +kernel) (by decide +kernel)
theorem w1647 : ((Jvm.Cond.methodLink "EchoGorgeModel" 247 ⟨"EchoGorgeModel","readsSweet","()V"⟩) : Cond) ∈ GW := gwt (i := 1647) (by decide +kernel) (by decide +kernel)
theorem w1649 : ((Jvm.Cond.instanceMethod ⟨"EchoGorgeModel","readsSweet","()V"⟩) : Cond) ∈ GW := gwt (i := 1649) (by decide +kernel) (by decide +kernel)
theorem w1650 : ((Jvm.Cond.code ⟨"EchoGorgeModel","readsSweet","()V"⟩ prog_14_method_21_code 2 (Option.none : Option Jvm.ClassFile.FieldType)) : Cond) ∈ GW := gwt (i := 1650) (by decide +kernel) (by decide +kernel)
theorem w1651 : ((Jvm.Cond.methodLink "EchoGorgeModel" 213 ⟨"EchoGorgeModel","soundHere","()Z"⟩) : Cond) ∈ GW := gwt (i := 1651) (by decide +kernel) (by decide +kernel)
theorem w1653 : ((Jvm.Cond.instanceMethod ⟨"EchoGorgeModel","soundHere","()Z"⟩) : Cond) ∈ GW := gwt (i := 1653) (by decide +kernel) (by decide +kernel)
theorem w1654 : ((Jvm.Cond.code ⟨"EchoGorgeModel","soundHere","()Z"⟩ prog_14_method_19_code 1 (Option.some Jvm.ClassFile.FieldType.boolean)) : Cond) ∈ GW := gwt (i := 1654) (by decide +kernel) (by decide +kernel)
theorem w1655 : ((Jvm.Cond.methodLink "EchoGorgeModel" 250 ⟨"EchoGorgeModel","readsWord","()V"⟩) : Cond) ∈ GW := gwt (i := 1655) (by decide +kernel) (by decide +kernel)
theorem w1657 : ((Jvm.Cond.instanceMethod ⟨"EchoGorgeModel","readsWord","()V"⟩) : Cond) ∈ GW := gwt (i := 1657) (by decide +kernel) (by decide +kernel)
theorem w1658 : ((Jvm.Cond.code ⟨"EchoGorgeModel","readsWord","()V"⟩ prog_14_method_22_code 3 (Option.none : Option Jvm.ClassFile.FieldType)) : Cond) ∈ GW := gwt (i := 1658) (by decide +kernel) (by decide +kernel)
theorem w1659 : ((Jvm.Cond.methodLink "EchoGorgeModel" 253 ⟨"EchoGorgeModel","readsForm","()V"⟩) : Cond) ∈ GW := gwt (i := 1659) (by decide +kernel) (by decide +kernel)
theorem w1661 : ((Jvm.Cond.instanceMethod ⟨"EchoGorgeModel","readsForm","()V"⟩) : Cond) ∈ GW := gwt (i := 1661) (by decide +kernel) (by decide +kernel)
theorem w1662 : ((Jvm.Cond.code ⟨"EchoGorgeModel","readsForm","()V"⟩ prog_14_method_23_code 4 (Option.none : Option Jvm.ClassFile.FieldType)) : Cond) ∈ GW := gwt (i := 1662) (by decide +kernel) (by decide +kernel)
theorem w1663 : ((Jvm.Cond.methodLink "EchoGorgeModel" 256 ⟨"EchoGorgeModel","need","(Z)V"⟩) : Cond) ∈ GW := gwt (i := 1663) (by decide +kernel) (by decide +kernel)
theorem w1665 : ((Jvm.Cond.instanceMethod ⟨"EchoGorgeModel","need","(Z)V"⟩) : Cond) ∈ GW := gwt (i := 1665) (by decide +kernel) (by decide +kernel)
theorem w1666 : ((Jvm.Cond.code ⟨"EchoGorgeModel","need","(Z)V"⟩ prog_14_method_17_code 2 (Option.none : Option Jvm.ClassFile.FieldType)) : Cond) ∈ GW := gwt (i := 1666) (by decide +kernel) (by decide +kernel)
theorem w1667 : ((Jvm.Cond.methodLink "EchoGorgeModel" 285 ⟨"EchoGorgeModel","copies","([I[I)V"⟩) : Cond) ∈ GW := gwt (i := 1667) (by decide +kernel) (by decide +kernel)
theorem w1669 : ((Jvm.Cond.instanceMethod ⟨"EchoGorgeModel","copies","([I[I)V"⟩) : Cond) ∈ GW := gwt (i := 1669) (by decide +kernel) (by decide +kernel)
theorem w1670 : ((Jvm.Cond.code ⟨"EchoGorgeModel","copies","([I[I)V"⟩ prog_14_method_5_code 4 (Option.none : Option Jvm.ClassFile.FieldType)) : Cond) ∈ GW := gwt (i := 1670) (by decide +kernel) (by decide +kernel)
theorem w1671 : ((Jvm.Cond.methodLink "EchoGorgeLaw" 103 ⟨"EchoGorgeModel","fault","()I"⟩) : Cond) ∈ GW := gwt (i := 1671) (by decide +kernel) (by decide +kernel)
theorem w1672 : ((Jvm.Cond.instanceMethod ⟨"EchoGorgeModel","fault","()I"⟩) : Cond) ∈ GW := gwt (i := 1672) (by decide +kernel) (by decide +kernel)
theorem w1673 : ((Jvm.Cond.selects "EchoGorgeModel" ⟨"EchoGorgeModel","fault","()I"⟩ ⟨"EchoGorgeModel","fault","()I"⟩) : Cond) ∈ GW := gwt (i := 1673) (by decide +kernel) (by decide +kernel)
theorem w1674 : ((Jvm.Cond.code ⟨"EchoGorgeModel","fault","()I"⟩ prog_14_method_27_code 1 (Option.some Jvm.ClassFile.FieldType.int)) : Cond) ∈ GW := gwt (i := 1674) (by decide +kernel) (by decide +kernel)
theorem w1675 : ((Jvm.Cond.methodLink "EchoGorgeLaw" 106 ⟨"EchoGorgeModel","count","(I)I"⟩) : Cond) ∈ GW := gwt (i := 1675) (by decide +kernel) (by decide +kernel)
theorem w1676 : ((Jvm.Cond.instanceMethod ⟨"EchoGorgeModel","count","(I)I"⟩) : Cond) ∈ GW := gwt (i := 1676) (by decide +kernel) (by decide +kernel)
theorem w1677 : ((Jvm.Cond.selects "EchoGorgeModel" ⟨"EchoGorgeModel","count","(I)I"⟩ ⟨"EchoGorgeModel","count","(I)I"⟩) : Cond) ∈ GW := gwt (i := 1677) (by decide +kernel) (by decide +kernel)
theorem w1678 : ((Jvm.Cond.code ⟨"EchoGorgeModel","count","(I)I"⟩ prog_14_method_28_code 2 (Option.some Jvm.ClassFile.FieldType.int)) : Cond) ∈ GW := gwt (i := 1678) (by decide +kernel) (by decide +kernel)
theorem w1679 : ((Jvm.Cond.methodLink "EchoGorgeModel" 301 ⟨"EchoGorgeModel","within","(III)Z"⟩) : Cond) ∈ GW := gwt (i := 1679) (by decide +kernel) (by decide +kernel)
theorem w1680 : ((Jvm.Cond.static ⟨"EchoGorgeModel","within","(III)Z"⟩) : Cond) ∈ GW := gwt (i := 1680) (by decide +kernel) (by decide +kernel)
theorem w1681 : ((Jvm.Cond.code ⟨"EchoGorgeModel","within","(III)Z"⟩ prog_14_method_4_code 3 (Option.some Jvm.ClassFile.FieldType.boolean)) : Cond) ∈ GW := gwt (i := 1681) (by decide +kernel) (by decide +kernel)
theorem w1682 : ((Jvm.Cond.methodLink "EchoGorgeModel" 305 ⟨"EchoGorgeModel","allLines","()I"⟩) : Cond) ∈ GW := gwt (i := 1682) (by decide +kernel) (by decide +kernel)
theorem w1684 : ((Jvm.Cond.instanceMethod ⟨"EchoGorgeModel","allLines","()I"⟩) : Cond) ∈ GW := gwt (i := 1684) (by decide +kernel) (by decide +kernel)
theorem w1685 : ((Jvm.Cond.code ⟨"EchoGorgeModel","allLines","()I"⟩ prog_14_method_45_code 3 (Option.some Jvm.ClassFile.FieldType.int)) : Cond) ∈ GW := gwt (i := 1685) (by decide +kernel) (by decide +kernel)
theorem w1686 : ((Jvm.Cond.methodLink "EchoGorgeModel" 350 ⟨"EchoGorgeModel","linesOf","(I)I"⟩) : Cond) ∈ GW := gwt (i := 1686) (by decide +kernel) (by decide +kernel)
theorem w1688 : ((Jvm.Cond.instanceMethod ⟨"EchoGorgeModel","linesOf","(I)I"⟩) : Cond) ∈ GW := gwt (i := 1688) (by decide +kernel) (by decide +kernel)
theorem w1689 : ((Jvm.Cond.code ⟨"EchoGorgeModel","linesOf","(I)I"⟩ prog_14_method_44_code 4 (Option.some Jvm.ClassFile.FieldType.int)) : Cond) ∈ GW := gwt (i := 1689) (by decide +kernel) (by decide +kernel)
theorem w1690 : ((Jvm.Cond.methodLink "EchoGorgeModel" 344 ⟨"EchoGorgeModel","kindOf","(II)I"⟩) : Cond) ∈ GW := gwt (i := 1690) (by decide +kernel) (by decide +kernel)
theorem w1692 : ((Jvm.Cond.instanceMethod ⟨"EchoGorgeModel","kindOf","(II)I"⟩) : Cond) ∈ GW := gwt (i := 1692) (by decide +kernel) (by decide +kernel)
theorem w1693 : ((Jvm.Cond.code ⟨"EchoGorgeModel","kindOf","(II)I"⟩ prog_14_method_42_code 3 (Option.some Jvm.ClassFile.FieldType.int)) : Cond) ∈ GW := gwt (i := 1693) (by decide +kernel) (by decide +kernel)
theorem w1694 : ((Jvm.Cond.methodLink "EchoGorgeModel" 347 ⟨"EchoGorgeModel","wordsOf","(I)I"⟩) : Cond) ∈ GW := gwt (i := 1694) (by decide +kernel) (by decide +kernel)
theorem w1696 : ((Jvm.Cond.instanceMethod ⟨"EchoGorgeModel","wordsOf","(I)I"⟩) : Cond) ∈ GW := gwt (i := 1696) (by decide +kernel) (by decide +kernel)
theorem w1697 : ((Jvm.Cond.code ⟨"EchoGorgeModel","wordsOf","(I)I"⟩ prog_14_method_43_code 4 (Option.some Jvm.ClassFile.FieldType.int)) : Cond) ∈ GW := gwt (i := 1697) (by decide +kernel) (by decide +kernel)
theorem w1698 : ((Jvm.Cond.methodLink "EchoGorgeLaw" 110 ⟨"EchoGorgeModel","wall","(II)I"⟩) : Cond) ∈ GW := gwt (i := 1698) (by decide +kernel) (by decide +kernel)
theorem w1699 : ((Jvm.Cond.instanceMethod ⟨"EchoGorgeModel","wall","(II)I"⟩) : Cond) ∈ GW := gwt (i := 1699) (by decide +kernel) (by decide +kernel)
theorem w1700 : ((Jvm.Cond.selects "EchoGorgeModel" ⟨"EchoGorgeModel","wall","(II)I"⟩ ⟨"EchoGorgeModel","wall","(II)I"⟩) : Cond) ∈ GW := gwt (i := 1700) (by decide +kernel) (by decide +kernel)
theorem w1701 : ((Jvm.Cond.code ⟨"EchoGorgeModel","wall","(II)I"⟩ prog_14_method_29_code 3 (Option.some Jvm.ClassFile.FieldType.int)) : Cond) ∈ GW := gwt (i := 1701) (by decide +kernel) (by decide +kernel)
theorem w1702 : ((Jvm.Cond.methodLink "EchoGorgeLaw" 113 ⟨"EchoGorgeModel","word","(II)I"⟩) : Cond) ∈ GW := gwt (i := 1702) (by decide +kernel) (by decide +kernel)
theorem w1703 : ((Jvm.Cond.instanceMethod ⟨"EchoGorgeModel","word","(II)I"⟩) : Cond) ∈ GW := gwt (i := 1703) (by decide +kernel) (by decide +kernel)
theorem w1704 : ((Jvm.Cond.selects "EchoGorgeModel" ⟨"EchoGorgeModel","word","(II)I"⟩ ⟨"EchoGorgeModel","word","(II)I"⟩) : Cond) ∈ GW := gwt (i := 1704) (by decide +kernel) (by decide +kernel)
theorem w1705 : ((Jvm.Cond.code ⟨"EchoGorgeModel","word","(II)I"⟩ prog_14_method_30_code 3 (Option.some Jvm.ClassFile.FieldType.int)) : Cond) ∈ GW := gwt (i := 1705) (by decide +kernel) (by decide +kernel)
theorem w1706 : ((Jvm.Cond.methodLink "EchoGorgeLaw" 116 ⟨"EchoGorgeModel","say","(II)I"⟩) : Cond) ∈ GW := gwt (i := 1706) (by decide +kernel) (by decide +kernel)
theorem w1707 : ((Jvm.Cond.instanceMethod ⟨"EchoGorgeModel","say","(II)I"⟩) : Cond) ∈ GW := gwt (i := 1707) (by decide +kernel) (by decide +kernel)
theorem w1708 : ((Jvm.Cond.selects "EchoGorgeModel" ⟨"EchoGorgeModel","say","(II)I"⟩ ⟨"EchoGorgeModel","say","(II)I"⟩) : Cond) ∈ GW := gwt (i := 1708) (by decide +kernel) (by decide +kernel)
theorem w1709 : ((Jvm.Cond.code ⟨"EchoGorgeModel","say","(II)I"⟩ prog_14_method_36_code 5 (Option.some Jvm.ClassFile.FieldType.int)) : Cond) ∈ GW := gwt (i := 1709) (by decide +kernel) (by decide +kernel)
theorem w1710 : ((Jvm.Cond.methodLink "EchoGorgeModel" 325 ⟨"EchoGorgeModel","isSound","(I)Z"⟩) : Cond) ∈ GW := gwt (i := 1710) (by decide +kernel) (by decide +kernel)
theorem w1712 : ((Jvm.Cond.instanceMethod ⟨"EchoGorgeModel","isSound","(I)Z"⟩) : Cond) ∈ GW := gwt (i := 1712) (by decide +kernel) (by decide +kernel)
theorem w1713 : ((Jvm.Cond.code ⟨"EchoGorgeModel","isSound","(I)Z"⟩ prog_14_method_31_code 2 (Option.some Jvm.ClassFile.FieldType.boolean)) : Cond) ∈ GW := gwt (i := 1713) (by decide +kernel) (by decide +kernel)
theorem w1714 : ((Jvm.Cond.methodLink "EchoGorgeLaw" 120 ⟨"EchoGorgeModel","hush","()I"⟩) : Cond) ∈ GW := gwt (i := 1714) (by decide +kernel) (by decide +kernel)
theorem w1715 : ((Jvm.Cond.instanceMethod ⟨"EchoGorgeModel","hush","()I"⟩) : Cond) ∈ GW := gwt (i := 1715) (by decide +kernel) (by decide +kernel)
theorem w1716 : ((Jvm.Cond.selects "EchoGorgeModel" ⟨"EchoGorgeModel","hush","()I"⟩ ⟨"EchoGorgeModel","hush","()I"⟩) : Cond) ∈ GW := gwt (i := 1716) (by decide +kernel) (by decide +kernel)
theorem w1717 : ((Jvm.Cond.code ⟨"EchoGorgeModel","hush","()I"⟩ prog_14_method_37_code 2 (Option.some Jvm.ClassFile.FieldType.int)) : Cond) ∈ GW := gwt (i := 1717) (by decide +kernel) (by decide +kernel)
theorem w1718 : ((Jvm.Cond.methodLink "EchoGorgeLaw" 124 ⟨"EchoGorgeModel","heard","(III)I"⟩) : Cond) ∈ GW := gwt (i := 1718) (by decide +kernel) (by decide +kernel)
theorem w1719 : ((Jvm.Cond.instanceMethod ⟨"EchoGorgeModel","heard","(III)I"⟩) : Cond) ∈ GW := gwt (i := 1719) (by decide +kernel) (by decide +kernel)
theorem w1720 : ((Jvm.Cond.selects "EchoGorgeModel" ⟨"EchoGorgeModel","heard","(III)I"⟩ ⟨"EchoGorgeModel","heard","(III)I"⟩) : Cond) ∈ GW := gwt (i := 1720) (by decide +kernel) (by decide +kernel)
theorem w1721 : ((Jvm.Cond.code ⟨"EchoGorgeModel","heard","(III)I"⟩ prog_14_method_40_code 4 (Option.some Jvm.ClassFile.FieldType.int)) : Cond) ∈ GW := gwt (i := 1721) (by decide +kernel) (by decide +kernel)
theorem w1722 : ((Jvm.Cond.methodLink "EchoGorgeModel" 335 ⟨"EchoGorgeModel","isWhere","(III)Z"⟩) : Cond) ∈ GW := gwt (i := 1722) (by decide +kernel) (by decide +kernel)
theorem w1724 : ((Jvm.Cond.instanceMethod ⟨"EchoGorgeModel","isWhere","(III)Z"⟩) : Cond) ∈ GW := gwt (i := 1724) (by decide +kernel) (by decide +kernel)
theorem w1725 : ((Jvm.Cond.code ⟨"EchoGorgeModel","isWhere","(III)Z"⟩ prog_14_method_38_code 4 (Option.some Jvm.ClassFile.FieldType.boolean)) : Cond) ∈ GW := gwt (i := 1725) (by decide +kernel) (by decide +kernel)
theorem w1726 : ((Jvm.Cond.methodLink "EchoGorgeModel" 338 ⟨"EchoGorgeModel","allSaid","(III)V"⟩) : Cond) ∈ GW := gwt (i := 1726) (by decide +kernel) (by decide +kernel)
theorem w1728 : ((Jvm.Cond.instanceMethod ⟨"EchoGorgeModel","allSaid","(III)V"⟩) : Cond) ∈ GW := gwt (i := 1728) (by decide +kernel) (by decide +kernel)
theorem w1729 : ((Jvm.Cond.code ⟨"EchoGorgeModel","allSaid","(III)V"⟩ prog_14_method_39_code 5 (Option.none : Option Jvm.ClassFile.FieldType)) : Cond) ∈ GW := gwt (i := 1729) (by decide +kernel) (by decide +kernel)
theorem w1730 : ((Jvm.Cond.methodLink "EchoGorgeModel" 328 ⟨"EchoGorgeModel","opens","(III)V"⟩) : Cond) ∈ GW := gwt (i := 1730) (by decide +kernel) (by decide +kernel)
theorem w1732 : ((Jvm.Cond.instanceMethod ⟨"EchoGorgeModel","opens","(III)V"⟩) : Cond) ∈ GW := gwt (i := 1732) (by decide +kernel) (by decide +kernel)
theorem w1733 : ((Jvm.Cond.code ⟨"EchoGorgeModel","opens","(III)V"⟩ prog_14_method_32_code 5 (Option.none : Option Jvm.ClassFile.FieldType)) : Cond) ∈ GW := gwt (i := 1733) (by decide +kernel) (by decide +kernel)
theorem w1734 : ((Jvm.Cond.methodLink "EchoGorgeModel" 331 ⟨"EchoGorgeModel","says","(II)V"⟩) : Cond) ∈ GW := gwt (i := 1734) (by decide +kernel) (by decide +kernel)
theorem w1736 : ((Jvm.Cond.instanceMethod ⟨"EchoGorgeModel","says","(II)V"⟩) : Cond) ∈ GW := gwt (i := 1736) (by decide +kernel) (by decide +kernel)
theorem w1737 : ((Jvm.Cond.code ⟨"EchoGorgeModel","says","(II)V"⟩ prog_14_method_34_code 7 (Option.none : Option Jvm.ClassFile.FieldType)) : Cond) ∈ GW := gwt (i := 1737) (by decide +kernel) (by decide +kernel)
theorem w1738 : ((Jvm.Cond.methodLink "EchoGorgeModel" 318 ⟨"EchoGorgeModel","comes","(III)V"⟩) : Cond) ∈ GW := gwt (i := 1738) (by decide +kernel) (by decide +kernel)
theorem w1740 : ((Jvm.Cond.instanceMethod ⟨"EchoGorgeModel","comes","(III)V"⟩) : Cond) ∈ GW := gwt (i := 1740) (by decide +kernel) (by decide +kernel)
theorem w1741 : ((Jvm.Cond.code ⟨"EchoGorgeModel","comes","(III)V"⟩ prog_14_method_33_code 4 (Option.none : Option Jvm.ClassFile.FieldType)) : Cond) ∈ GW := gwt (i := 1741) (by decide +kernel) (by decide +kernel)
theorem w1742 : ((Jvm.Cond.methodLink "EchoGorgeModel" 341 ⟨"EchoGorgeModel","hears","(I)I"⟩) : Cond) ∈ GW := gwt (i := 1742) (by decide +kernel) (by decide +kernel)
theorem w1744 : ((Jvm.Cond.instanceMethod ⟨"EchoGorgeModel","hears","(I)I"⟩) : Cond) ∈ GW := gwt (i := 1744) (by decide +kernel) (by decide +kernel)
theorem w1745 : ((Jvm.Cond.code ⟨"EchoGorgeModel","hears","(I)I"⟩ prog_14_method_35_code 5 (Option.some Jvm.ClassFile.FieldType.int)) : Cond) ∈ GW := gwt (i := 1745) (by decide +kernel) (by decide +kernel)
theorem w1746 : ((Jvm.Cond.methodLink "EchoGorgeLaw" 128 ⟨"EchoGorgeModel","loud","(IIII)I"⟩) : Cond) ∈ GW := gwt (i := 1746) (by decide +kernel) (by decide +kernel)
theorem w1747 : ((Jvm.Cond.instanceMethod ⟨"EchoGorgeModel","loud","(IIII)I"⟩) : Cond) ∈ GW := gwt (i := 1747) (by decide +kernel) (by decide +kernel)
theorem w1748 : ((Jvm.Cond.selects "EchoGorgeModel" ⟨"EchoGorgeModel","loud","(IIII)I"⟩ ⟨"EchoGorgeModel","loud","(IIII)I"⟩) : Cond) ∈ GW := gwt (i := 1748) (by decide +kernel) (by decide +kernel)
theorem w1749 : ((Jvm.Cond.code ⟨"EchoGorgeModel","loud","(IIII)I"⟩ prog_14_method_41_code 5 (Option.some Jvm.ClassFile.FieldType.int)) : Cond) ∈ GW := gwt (i := 1749) (by decide +kernel) (by decide +kernel)
theorem w1750 : ((Jvm.Cond.methodLink "EchoGorgeLaw" 131 ⟨"EchoGorgeModel","lines","(II)I"⟩) : Cond) ∈ GW := gwt (i := 1750) (by decide +kernel) (by decide +kernel)
theorem w1751 : ((Jvm.Cond.instanceMethod ⟨"EchoGorgeModel","lines","(II)I"⟩) : Cond) ∈ GW := gwt (i := 1751) (by decide +kernel) (by decide +kernel)
theorem w1752 : ((Jvm.Cond.selects "EchoGorgeModel" ⟨"EchoGorgeModel","lines","(II)I"⟩ ⟨"EchoGorgeModel","lines","(II)I"⟩) : Cond) ∈ GW := gwt (i := 1752) (by decide +kernel) (by decide +kernel)
theorem w1753 : ((Jvm.Cond.code ⟨"EchoGorgeModel","lines","(II)I"⟩ prog_14_method_59_code 5 (Option.some Jvm.ClassFile.FieldType.int)) : Cond) ∈ GW := gwt (i := 1753) (by decide +kernel) (by decide +kernel)
theorem w1754 : ((Jvm.Cond.methodLink "EchoGorgeModel" 408 ⟨"EchoGorgeModel","isHour","(I)Z"⟩) : Cond) ∈ GW := gwt (i := 1754) (by decide +kernel) (by decide +kernel)
theorem w1756 : ((Jvm.Cond.instanceMethod ⟨"EchoGorgeModel","isHour","(I)Z"⟩) : Cond) ∈ GW := gwt (i := 1756) (by decide +kernel) (by decide +kernel)
theorem w1757 : ((Jvm.Cond.code ⟨"EchoGorgeModel","isHour","(I)Z"⟩ prog_14_method_58_code 2 (Option.some Jvm.ClassFile.FieldType.boolean)) : Cond) ∈ GW := gwt (i := 1757) (by decide +kernel) (by decide +kernel)
theorem w1758 : ((Jvm.Cond.methodLink "EchoGorgeModel" 411 ⟨"EchoGorgeModel","goesThrough","(I)V"⟩) : Cond) ∈ GW := gwt (i := 1758) (by decide +kernel) (by decide +kernel)
theorem w1760 : ((Jvm.Cond.instanceMethod ⟨"EchoGorgeModel","goesThrough","(I)V"⟩) : Cond) ∈ GW := gwt (i := 1760) (by decide +kernel) (by decide +kernel)
theorem w1761 : ((Jvm.Cond.code ⟨"EchoGorgeModel","goesThrough","(I)V"⟩ prog_14_method_56_code 4 (Option.none : Option Jvm.ClassFile.FieldType)) : Cond) ∈ GW := gwt (i := 1761) (by decide +kernel) (by decide +kernel)
theorem w1762 : ((Jvm.Cond.methodLink "EchoGorgeModel" 393 ⟨"EchoGorgeModel","firstLine","()Z"⟩) : Cond) ∈ GW := gwt (i := 1762) (by decide +kernel) (by decide +kernel)
theorem w1764 : ((Jvm.Cond.instanceMethod ⟨"EchoGorgeModel","firstLine","()Z"⟩) : Cond) ∈ GW := gwt (i := 1764) (by decide +kernel) (by decide +kernel)
theorem w1765 : ((Jvm.Cond.code ⟨"EchoGorgeModel","firstLine","()Z"⟩ prog_14_method_47_code 1 (Option.some Jvm.ClassFile.FieldType.boolean)) : Cond) ∈ GW := gwt (i := 1765) (by decide +kernel) (by decide +kernel)
theorem w1766 : ((Jvm.Cond.methodLink "EchoGorgeModel" 356 ⟨"EchoGorgeModel","nextForm","()Z"⟩) : Cond) ∈ GW := gwt (i := 1766) (by decide +kernel) (by decide +kernel)
theorem w1768 : ((Jvm.Cond.instanceMethod ⟨"EchoGorgeModel","nextForm","()Z"⟩) : Cond) ∈ GW := gwt (i := 1768) (by decide +kernel) (by decide +kernel)
theorem w1769 : ((Jvm.Cond.code ⟨"EchoGorgeModel","nextForm","()Z"⟩ prog_14_method_48_code 2 (Option.some Jvm.ClassFile.FieldType.boolean)) : Cond) ∈ GW := gwt (i := 1769) (by decide +kernel) (by decide +kernel)
theorem w1770 : ((Jvm.Cond.methodLink "EchoGorgeModel" 359 ⟨"EchoGorgeModel","wordBehind","(II)I"⟩) : Cond) ∈ GW := gwt (i := 1770) (by decide +kernel) (by decide +kernel)
theorem w1772 : ((Jvm.Cond.instanceMethod ⟨"EchoGorgeModel","wordBehind","(II)I"⟩) : Cond) ∈ GW := gwt (i := 1772) (by decide +kernel) (by decide +kernel)
theorem w1773 : ((Jvm.Cond.code ⟨"EchoGorgeModel","wordBehind","(II)I"⟩ prog_14_method_46_code 4 (Option.some Jvm.ClassFile.FieldType.int)) : Cond) ∈ GW := gwt (i := 1773) (by decide +kernel) (by decide +kernel)
theorem w1774 : ((Jvm.Cond.methodLink "EchoGorgeModel" 396 ⟨"EchoGorgeModel","answers","(I)Z"⟩) : Cond) ∈ GW := gwt (i := 1774) (by decide +kernel) (by decide +kernel)
theorem w1776 : ((Jvm.Cond.instanceMethod ⟨"EchoGorgeModel","answers","(I)Z"⟩) : Cond) ∈ GW := gwt (i := 1776) (by decide +kernel) (by decide +kernel)
theorem w1777 : ((Jvm.Cond.code ⟨"EchoGorgeModel","answers","(I)Z"⟩ prog_14_method_54_code 2 (Option.some Jvm.ClassFile.FieldType.boolean)) : Cond) ∈ GW := gwt (i := 1777) (by decide +kernel) (by decide +kernel)
theorem w1778 : ((Jvm.Cond.methodLink "EchoGorgeModel" 375 ⟨"EchoGorgeModel","returns","(I)V"⟩) : Cond) ∈ GW := gwt (i := 1778) (by decide +kernel) (by decide +kernel)
theorem w1780 : ((Jvm.Cond.instanceMethod ⟨"EchoGorgeModel","returns","(I)V"⟩) : Cond) ∈ GW := gwt (i := 1780) (by decide +kernel) (by decide +kernel)
theorem w1781 : ((Jvm.Cond.code ⟨"EchoGorgeModel","returns","(I)V"⟩ prog_14_method_51_code 4 (Option.none : Option Jvm.ClassFile.FieldType)) : Cond) ∈ GW := gwt (i := 1781) (by decide +kernel) (by decide +kernel)
theorem w1782 : ((Jvm.Cond.methodLink "EchoGorgeModel" 365 ⟨"EchoGorgeModel","speaks","()V"⟩) : Cond) ∈ GW := gwt (i := 1782) (by decide +kernel) (by decide +kernel)
theorem w1784 : ((Jvm.Cond.instanceMethod ⟨"EchoGorgeModel","speaks","()V"⟩) : Cond) ∈ GW := gwt (i := 1784) (by decide +kernel) (by decide +kernel)
theorem w1785 : ((Jvm.Cond.code ⟨"EchoGorgeModel","speaks","()V"⟩ prog_14_method_50_code 3 (Option.none : Option Jvm.ClassFile.FieldType)) : Cond) ∈ GW := gwt (i := 1785) (by decide +kernel) (by decide +kernel)
theorem w1786 : ((Jvm.Cond.methodLink "EchoGorgeModel" 378 ⟨"EchoGorgeModel","isLine","()Z"⟩) : Cond) ∈ GW := gwt (i := 1786) (by decide +kernel) (by decide +kernel)
theorem w1788 : ((Jvm.Cond.instanceMethod ⟨"EchoGorgeModel","isLine","()Z"⟩) : Cond) ∈ GW := gwt (i := 1788) (by decide +kernel) (by decide +kernel)
theorem w1789 : ((Jvm.Cond.code ⟨"EchoGorgeModel","isLine","()Z"⟩ prog_14_method_53_code 7 (Option.some Jvm.ClassFile.FieldType.boolean)) : Cond) ∈ GW := gwt (i := 1789) (by decide +kernel) (by decide +kernel)
theorem w1790 : ((Jvm.Cond.methodLink "EchoGorgeModel" 371 ⟨"EchoGorgeModel","isWordAt","(II)Z"⟩) : Cond) ∈ GW := gwt (i := 1790) (by decide +kernel) (by decide +kernel)
theorem w1792 : ((Jvm.Cond.instanceMethod ⟨"EchoGorgeModel","isWordAt","(II)Z"⟩) : Cond) ∈ GW := gwt (i := 1792) (by decide +kernel) (by decide +kernel)
theorem w1793 : ((Jvm.Cond.code ⟨"EchoGorgeModel","isWordAt","(II)Z"⟩ prog_14_method_52_code 4 (Option.some Jvm.ClassFile.FieldType.boolean)) : Cond) ∈ GW := gwt (i := 1793) (by decide +kernel) (by decide +kernel)
theorem w1794 : ((Jvm.Cond.methodLink "EchoGorgeModel" 399 ⟨"EchoGorgeModel","isEchoed","()Z"⟩) : Cond) ∈ GW := gwt (i := 1794) (by decide +kernel) (by decide +kernel)
theorem w1796 : ((Jvm.Cond.instanceMethod ⟨"EchoGorgeModel","isEchoed","()Z"⟩) : Cond) ∈ GW := gwt (i := 1796) (by decide +kernel) (by decide +kernel)
theorem w1797 : ((Jvm.Cond.code ⟨"EchoGorgeModel","isEchoed","()Z"⟩ prog_14_method_55_code 2 (Option.some Jvm.ClassFile.FieldType.boolean)) : Cond) ∈ GW := gwt (i := 1797) (by decide +kernel) (by decide +kernel)
theorem w1798 : ((Jvm.Cond.methodLink "EchoGorgeModel" 405 ⟨"EchoGorgeModel","nextLine","()Z"⟩) : Cond) ∈ GW := gwt (i := 1798) (by decide +kernel) (by decide +kernel)
theorem w1800 : ((Jvm.Cond.instanceMethod ⟨"EchoGorgeModel","nextLine","()Z"⟩) : Cond) ∈ GW := gwt (i := 1800) (by decide +kernel) (by decide +kernel)
theorem w1801 : ((Jvm.Cond.code ⟨"EchoGorgeModel","nextLine","()Z"⟩ prog_14_method_49_code 4 (Option.some Jvm.ClassFile.FieldType.boolean)) : Cond) ∈ GW := gwt (i := 1801) (by decide +kernel) (by decide +kernel)
theorem w1802 : ((Jvm.Cond.methodLink "EchoGorgeModel" 414 ⟨"EchoGorgeModel","bits","(I)I"⟩) : Cond) ∈ GW := gwt (i := 1802) (by decide +kernel) (by decide +kernel)
theorem w1803 : ((Jvm.Cond.static ⟨"EchoGorgeModel","bits","(I)I"⟩) : Cond) ∈ GW := gwt (i := 1803) (by decide +kernel) (by decide +kernel)
theorem w1804 : ((Jvm.Cond.code ⟨"EchoGorgeModel","bits","(I)I"⟩ prog_14_method_57_code 3 (Option.some Jvm.ClassFile.FieldType.int)) : Cond) ∈ GW := gwt (i := 1804) (by decide +kernel) (by decide +kernel)
theorem w1805 : ((Jvm.Cond.methodLink "EchoGorgeLaw" 134 ⟨"EchoGorgeModel","line","(III)I"⟩) : Cond) ∈ GW := gwt (i := 1805) (by decide +kernel) (by decide +kernel)
theorem w1806 : ((Jvm.Cond.instanceMethod ⟨"EchoGorgeModel","line","(III)I"⟩) : Cond) ∈ GW := gwt (i := 1806) (by decide +kernel) (by decide +kernel)
theorem w1807 : ((Jvm.Cond.selects "EchoGorgeModel" ⟨"EchoGorgeModel","line","(III)I"⟩ ⟨"EchoGorgeModel","line","(III)I"⟩) : Cond) ∈ GW := gwt (i := 1807) (by decide +kernel) (by decide +kernel)
theorem w1808 : ((Jvm.Cond.code ⟨"EchoGorgeModel","line","(III)I"⟩ prog_14_method_60_code 6 (Option.some Jvm.ClassFile.FieldType.int)) : Cond) ∈ GW := gwt (i := 1808) (by decide +kernel) (by decide +kernel)
theorem w1809 : ((Jvm.Cond.methodLink "EchoGorgeLaw" 137 ⟨"EchoGorgeModel","still","(II)I"⟩) : Cond) ∈ GW := gwt (i := 1809) (by decide +kernel) (by decide +kernel)
theorem w1810 : ((Jvm.Cond.instanceMethod ⟨"EchoGorgeModel","still","(II)I"⟩) : Cond) ∈ GW := gwt (i := 1810) (by decide +kernel) (by decide +kernel)
theorem w1811 : ((Jvm.Cond.selects "EchoGorgeModel" ⟨"EchoGorgeModel","still","(II)I"⟩ ⟨"EchoGorgeModel","still","(II)I"⟩) : Cond) ∈ GW := gwt (i := 1811) (by decide +kernel) (by decide +kernel)
theorem w1812 : ((Jvm.Cond.code ⟨"EchoGorgeModel","still","(II)I"⟩ prog_14_method_62_code 3 (Option.some Jvm.ClassFile.FieldType.int)) : Cond) ∈ GW := gwt (i := 1812) (by decide +kernel) (by decide +kernel)
theorem w1813 : ((Jvm.Cond.methodLink "EchoGorgeModel" 417 ⟨"EchoGorgeModel","stillOf","(IIII)I"⟩) : Cond) ∈ GW := gwt (i := 1813) (by decide +kernel) (by decide +kernel)
theorem w1815 : ((Jvm.Cond.instanceMethod ⟨"EchoGorgeModel","stillOf","(IIII)I"⟩) : Cond) ∈ GW := gwt (i := 1815) (by decide +kernel) (by decide +kernel)
theorem w1816 : ((Jvm.Cond.code ⟨"EchoGorgeModel","stillOf","(IIII)I"⟩ prog_14_method_61_code 7 (Option.some Jvm.ClassFile.FieldType.int)) : Cond) ∈ GW := gwt (i := 1816) (by decide +kernel) (by decide +kernel)
theorem w1817 : ((Jvm.Cond.methodLink "EchoGorgeLaw" 140 ⟨"EchoGorgeModel","without","(II)I"⟩) : Cond) ∈ GW := gwt (i := 1817) (by decide +kernel) (by decide +kernel)
theorem w1818 : ((Jvm.Cond.instanceMethod ⟨"EchoGorgeModel","without","(II)I"⟩) : Cond) ∈ GW := gwt (i := 1818) (by decide +kernel) (by decide +kernel)
theorem w1819 : ((Jvm.Cond.selects "EchoGorgeModel" ⟨"EchoGorgeModel","without","(II)I"⟩ ⟨"EchoGorgeModel","without","(II)I"⟩) : Cond) ∈ GW := gwt (i := 1819) (by decide +kernel) (by decide +kernel)
theorem w1820 : ((Jvm.Cond.code ⟨"EchoGorgeModel","without","(II)I"⟩ prog_14_method_63_code 3 (Option.some Jvm.ClassFile.FieldType.int)) : Cond) ∈ GW := gwt (i := 1820) (by decide +kernel) (by decide +kernel)
theorem w1821 : ((Jvm.Cond.methodLink "EchoGorgeLaw" 143 ⟨"EchoGorgeModel","lasts","(I)I"⟩) : Cond) ∈ GW := gwt (i := 1821) (by decide +kernel) (by decide +kernel)
theorem w1822 : ((Jvm.Cond.instanceMethod ⟨"EchoGorgeModel","lasts","(I)I"⟩) : Cond) ∈ GW := gwt (i := 1822) (by decide +kernel) (by decide +kernel)
theorem w1823 : ((Jvm.Cond.selects "EchoGorgeModel" ⟨"EchoGorgeModel","lasts","(I)I"⟩ ⟨"EchoGorgeModel","lasts","(I)I"⟩) : Cond) ∈ GW := gwt (i := 1823) (by decide +kernel) (by decide +kernel)
theorem w1824 : ((Jvm.Cond.code ⟨"EchoGorgeModel","lasts","(I)I"⟩ prog_14_method_64_code 6 (Option.some Jvm.ClassFile.FieldType.int)) : Cond) ∈ GW := gwt (i := 1824) (by decide +kernel) (by decide +kernel)
theorem w1825 : ((Jvm.Cond.methodLink "EchoGorgeLaw" 146 ⟨"EchoGorgeModel","sing","(II)I"⟩) : Cond) ∈ GW := gwt (i := 1825) (by decide +kernel) (by decide +kernel)
theorem w1826 : ((Jvm.Cond.instanceMethod ⟨"EchoGorgeModel","sing","(II)I"⟩) : Cond) ∈ GW := gwt (i := 1826) (by decide +kernel) (by decide +kernel)
theorem w1827 : ((Jvm.Cond.selects "EchoGorgeModel" ⟨"EchoGorgeModel","sing","(II)I"⟩ ⟨"EchoGorgeModel","sing","(II)I"⟩) : Cond) ∈ GW := gwt (i := 1827) (by decide +kernel) (by decide +kernel)
theorem w1828 : ((Jvm.Cond.code ⟨"EchoGorgeModel","sing","(II)I"⟩ prog_14_method_65_code 3 (Option.some Jvm.ClassFile.FieldType.int)) : Cond) ∈ GW := gwt (i := 1828) (by decide +kernel) (by decide +kernel)
theorem w1829 : ((Jvm.Cond.methodLink "EchoGorgeLaw" 149 ⟨"EchoGorgeModel","round","(I)I"⟩) : Cond) ∈ GW := gwt (i := 1829) (by decide +kernel) (by decide +kernel)
theorem w1830 : ((Jvm.Cond.instanceMethod ⟨"EchoGorgeModel","round","(I)I"⟩) : Cond) ∈ GW := gwt (i := 1830) (by decide +kernel) (by decide +kernel)
theorem w1831 : ((Jvm.Cond.selects "EchoGorgeModel" ⟨"EchoGorgeModel","round","(I)I"⟩ ⟨"EchoGorgeModel","round","(I)I"⟩) : Cond) ∈ GW := gwt (i := 1831) (by decide +kernel) (by decide +kernel)
theorem w1832 : ((Jvm.Cond.code ⟨"EchoGorgeModel","round","(I)I"⟩ prog_14_method_67_code 3 (Option.some Jvm.ClassFile.FieldType.int)) : Cond) ∈ GW := gwt (i := 1832) (by decide +kernel) (by decide +kernel)
theorem w1833 : ((Jvm.Cond.methodLink "EchoGorgeModel" 421 ⟨"EchoGorgeModel","clashes","(I)I"⟩) : Cond) ∈ GW := gwt (i := 1833) (by decide +kernel) (by decide +kernel)
theorem w1835 : ((Jvm.Cond.instanceMethod ⟨"EchoGorgeModel","clashes","(I)I"⟩) : Cond) ∈ GW := gwt (i := 1835) (by decide +kernel) (by decide +kernel)
theorem w1836 : ((Jvm.Cond.code ⟨"EchoGorgeModel","clashes","(I)I"⟩ prog_14_method_66_code 7 (Option.some Jvm.ClassFile.FieldType.int)) : Cond) ∈ GW := gwt (i := 1836) (by decide +kernel) (by decide +kernel)
theorem w1837 : ((Jvm.Cond.methodLink "EchoGorgeLaw" 152 ⟨"EchoGorgeModel","tell","(I)I"⟩) : Cond) ∈ GW := gwt (i := 1837) (by decide +kernel) (by decide +kernel)
theorem w1838 : ((Jvm.Cond.instanceMethod ⟨"EchoGorgeModel","tell","(I)I"⟩) : Cond) ∈ GW := gwt (i := 1838) (by decide +kernel) (by decide +kernel)
theorem w1839 : ((Jvm.Cond.selects "EchoGorgeModel" ⟨"EchoGorgeModel","tell","(I)I"⟩ ⟨"EchoGorgeModel","tell","(I)I"⟩) : Cond) ∈ GW := gwt (i := 1839) (by decide +kernel) (by decide +kernel)
theorem w1840 : ((Jvm.Cond.code ⟨"EchoGorgeModel","tell","(I)I"⟩ prog_14_method_68_code 2 (Option.some Jvm.ClassFile.FieldType.int)) : Cond) ∈ GW := gwt (i := 1840) (by decide +kernel) (by decide +kernel)
theorem w1841 : ((Jvm.Cond.methodLink "EchoGorgeLaw" 156 ⟨"EchoGorgeModel","untell","()I"⟩) : Cond) ∈ GW := gwt (i := 1841) (by decide +kernel) (by decide +kernel)
theorem w1842 : ((Jvm.Cond.instanceMethod ⟨"EchoGorgeModel","untell","()I"⟩) : Cond) ∈ GW := gwt (i := 1842) (by decide +kernel) (by decide +kernel)
theorem w1843 : ((Jvm.Cond.selects "EchoGorgeModel" ⟨"EchoGorgeModel","untell","()I"⟩ ⟨"EchoGorgeModel","untell","()I"⟩) : Cond) ∈ GW := gwt (i := 1843) (by decide +kernel) (by decide +kernel)
theorem w1844 : ((Jvm.Cond.code ⟨"EchoGorgeModel","untell","()I"⟩ prog_14_method_69_code 2 (Option.some Jvm.ClassFile.FieldType.int)) : Cond) ∈ GW := gwt (i := 1844) (by decide +kernel) (by decide +kernel)
theorem w1845 : ((Jvm.Cond.methodLink "EchoGorgeLaw" 159 ⟨"EchoGorgeModel","rivals","(II)I"⟩) : Cond) ∈ GW := gwt (i := 1845) (by decide +kernel) (by decide +kernel)
theorem w1846 : ((Jvm.Cond.instanceMethod ⟨"EchoGorgeModel","rivals","(II)I"⟩) : Cond) ∈ GW := gwt (i := 1846) (by decide +kernel) (by decide +kernel)
theorem w1847 : ((Jvm.Cond.selects "EchoGorgeModel" ⟨"EchoGorgeModel","rivals","(II)I"⟩ ⟨"EchoGorgeModel","rivals","(II)I"⟩) : Cond) ∈ GW := gwt (i := 1847) (by decide +kernel) (by decide +kernel)
theorem w1848 : ((Jvm.Cond.code ⟨"EchoGorgeModel","rivals","(II)I"⟩ prog_14_method_76_code 9 (Option.some Jvm.ClassFile.FieldType.int)) : Cond) ∈ GW := gwt (i := 1848) (by decide +kernel) (by decide +kernel)
theorem w1849 : ((Jvm.Cond.methodLink "EchoGorgeModel" 441 ⟨"EchoGorgeModel","finds","(I)V"⟩) : Cond) ∈ GW := gwt (i := 1849) (by decide +kernel) (by decide +kernel)
theorem w1851 : ((Jvm.Cond.instanceMethod ⟨"EchoGorgeModel","finds","(I)V"⟩) : Cond) ∈ GW := gwt (i := 1851) (by decide +kernel) (by decide +kernel)
theorem w1852 : ((Jvm.Cond.code ⟨"EchoGorgeModel","finds","(I)V"⟩ prog_14_method_73_code 5 (Option.none : Option Jvm.ClassFile.FieldType)) : Cond) ∈ GW := gwt (i := 1852) (by decide +kernel) (by decide +kernel)
theorem w1853 : ((Jvm.Cond.constant "EchoGorgeModel" 430 (1048576 : Int32)) : Cond) ∈ GW := gwt (i := 1853) (by decide +kernel) (by decide +kernel)
theorem w1854 : ((Jvm.Cond.methodLink "EchoGorgeModel" 431 ⟨"EchoGorgeModel","saysBy","(IIII)V"⟩) : Cond) ∈ GW := gwt (i := 1854) (by decide +kernel) (by decide +kernel)
theorem w1856 : ((Jvm.Cond.instanceMethod ⟨"EchoGorgeModel","saysBy","(IIII)V"⟩) : Cond) ∈ GW := gwt (i := 1856) (by decide +kernel) (by decide +kernel)
theorem w1857 : ((Jvm.Cond.code ⟨"EchoGorgeModel","saysBy","(IIII)V"⟩ prog_14_method_72_code 6 (Option.none : Option Jvm.ClassFile.FieldType)) : Cond) ∈ GW := gwt (i := 1857) (by decide +kernel) (by decide +kernel)
theorem w1858 : ((Jvm.Cond.methodLink "EchoGorgeModel" 435 ⟨"EchoGorgeModel","isTold","()Z"⟩) : Cond) ∈ GW := gwt (i := 1858) (by decide +kernel) (by decide +kernel)
theorem w1860 : ((Jvm.Cond.instanceMethod ⟨"EchoGorgeModel","isTold","()Z"⟩) : Cond) ∈ GW := gwt (i := 1860) (by decide +kernel) (by decide +kernel)
theorem w1861 : ((Jvm.Cond.code ⟨"EchoGorgeModel","isTold","()Z"⟩ prog_14_method_71_code 2 (Option.some Jvm.ClassFile.FieldType.boolean)) : Cond) ∈ GW := gwt (i := 1861) (by decide +kernel) (by decide +kernel)
theorem w1862 : ((Jvm.Cond.methodLink "EchoGorgeModel" 424 ⟨"EchoGorgeModel","toldAt","(I)I"⟩) : Cond) ∈ GW := gwt (i := 1862) (by decide +kernel) (by decide +kernel)
theorem w1864 : ((Jvm.Cond.instanceMethod ⟨"EchoGorgeModel","toldAt","(I)I"⟩) : Cond) ∈ GW := gwt (i := 1864) (by decide +kernel) (by decide +kernel)
theorem w1865 : ((Jvm.Cond.code ⟨"EchoGorgeModel","toldAt","(I)I"⟩ prog_14_method_70_code 2 (Option.some Jvm.ClassFile.FieldType.int)) : Cond) ∈ GW := gwt (i := 1865) (by decide +kernel) (by decide +kernel)
theorem w1866 : ((Jvm.Cond.methodLink "EchoGorgeModel" 438 ⟨"EchoGorgeModel","next0","(II)I"⟩) : Cond) ∈ GW := gwt (i := 1866) (by decide +kernel) (by decide +kernel)
theorem w1867 : ((Jvm.Cond.static ⟨"EchoGorgeModel","next0","(II)I"⟩) : Cond) ∈ GW := gwt (i := 1867) (by decide +kernel) (by decide +kernel)
theorem w1868 : ((Jvm.Cond.code ⟨"EchoGorgeModel","next0","(II)I"⟩ prog_14_method_74_code 6 (Option.some Jvm.ClassFile.FieldType.int)) : Cond) ∈ GW := gwt (i := 1868) (by decide +kernel) (by decide +kernel)
theorem w1869 : ((Jvm.Cond.constant "EchoGorgeModel" 444 (1048575 : Int32)) : Cond) ∈ GW := gwt (i := 1869) (by decide +kernel) (by decide +kernel)
theorem w1870 : ((Jvm.Cond.methodLink "EchoGorgeModel" 445 ⟨"EchoGorgeModel","group","(II)I"⟩) : Cond) ∈ GW := gwt (i := 1870) (by decide +kernel) (by decide +kernel)
theorem w1872 : ((Jvm.Cond.instanceMethod ⟨"EchoGorgeModel","group","(II)I"⟩) : Cond) ∈ GW := gwt (i := 1872) (by decide +kernel) (by decide +kernel)
theorem w1873 : ((Jvm.Cond.code ⟨"EchoGorgeModel","group","(II)I"⟩ prog_14_method_75_code 7 (Option.some Jvm.ClassFile.FieldType.int)) : Cond) ∈ GW := gwt (i := 1873) (by decide +kernel) (by decide +kernel)
theorem w1874 : ((Jvm.Cond.methodLink "EchoGorgeLaw" 162 ⟨"EchoGorgeModel","sayers","(I)I"⟩) : Cond) ∈ GW := gwt (i := 1874) (by decide +kernel) (by decide +kernel)
theorem w1875 : ((Jvm.Cond.instanceMethod ⟨"EchoGorgeModel","sayers","(I)I"⟩) : Cond) ∈ GW := gwt (i := 1875) (by decide +kernel) (by decide +kernel)
theorem w1876 : ((Jvm.Cond.selects "EchoGorgeModel" ⟨"EchoGorgeModel","sayers","(I)I"⟩ ⟨"EchoGorgeModel","sayers","(I)I"⟩) : Cond) ∈ GW := gwt (i := 1876) (by decide +kernel) (by decide +kernel)
theorem w1877 : ((Jvm.Cond.code ⟨"EchoGorgeModel","sayers","(I)I"⟩ prog_14_method_77_code 8 (Option.some Jvm.ClassFile.FieldType.int)) : Cond) ∈ GW := gwt (i := 1877) (by decide +kernel) (by decide +kernel)
theorem w1878 : ((Jvm.Cond.methodLink "EchoGorgeLaw" 165 ⟨"EchoGorgeModel","stand","(III)Z"⟩) : Cond) ∈ GW := gwt (i := 1878) (by decide +kernel) (by decide +kernel)
theorem w1879 : ((Jvm.Cond.instanceMethod ⟨"EchoGorgeModel","stand","(III)Z"⟩) : Cond) ∈ GW := gwt (i := 1879) (by decide +kernel) (by decide +kernel)
theorem w1880 : ((Jvm.Cond.selects "EchoGorgeModel" ⟨"EchoGorgeModel","stand","(III)Z"⟩ ⟨"EchoGorgeModel","stand","(III)Z"⟩) : Cond) ∈ GW := gwt (i := 1880) (by decide +kernel) (by decide +kernel)
theorem w1881 : ((Jvm.Cond.code ⟨"EchoGorgeModel","stand","(III)Z"⟩ prog_14_method_78_code 4 (Option.some Jvm.ClassFile.FieldType.boolean)) : Cond) ∈ GW := gwt (i := 1881) (by decide +kernel) (by decide +kernel)
theorem w1882 : ((Jvm.Cond.methodLink "EchoGorgeLaw" 168 ⟨"EchoGorgeModel","matching","(III)I"⟩) : Cond) ∈ GW := gwt (i := 1882) (by decide +kernel) (by decide +kernel)
theorem w1883 : ((Jvm.Cond.instanceMethod ⟨"EchoGorgeModel","matching","(III)I"⟩) : Cond) ∈ GW := gwt (i := 1883) (by decide +kernel) (by decide +kernel)
theorem w1884 : ((Jvm.Cond.selects "EchoGorgeModel" ⟨"EchoGorgeModel","matching","(III)I"⟩ ⟨"EchoGorgeModel","matching","(III)I"⟩) : Cond) ∈ GW := gwt (i := 1884) (by decide +kernel) (by decide +kernel)
theorem w1885 : ((Jvm.Cond.code ⟨"EchoGorgeModel","matching","(III)I"⟩ prog_14_method_81_code 6 (Option.some Jvm.ClassFile.FieldType.int)) : Cond) ∈ GW := gwt (i := 1885) (by decide +kernel) (by decide +kernel)
theorem w1886 : ((Jvm.Cond.methodLink "EchoGorgeModel" 451 ⟨"EchoGorgeModel","matches","(III)Z"⟩) : Cond) ∈ GW := gwt (i := 1886) (by decide +kernel) (by decide +kernel)
theorem w1888 : ((Jvm.Cond.instanceMethod ⟨"EchoGorgeModel","matches","(III)Z"⟩) : Cond) ∈ GW := gwt (i := 1888) (by decide +kernel) (by decide +kernel)
theorem w1889 : ((Jvm.Cond.code ⟨"EchoGorgeModel","matches","(III)Z"⟩ prog_14_method_80_code 5 (Option.some Jvm.ClassFile.FieldType.boolean)) : Cond) ∈ GW := gwt (i := 1889) (by decide +kernel) (by decide +kernel)
theorem w1890 : ((Jvm.Cond.methodLink "EchoGorgeModel" 448 ⟨"EchoGorgeModel","ticksTo","(II)I"⟩) : Cond) ∈ GW := gwt (i := 1890) (by decide +kernel) (by decide +kernel)
theorem w1892 : ((Jvm.Cond.instanceMethod ⟨"EchoGorgeModel","ticksTo","(II)I"⟩) : Cond) ∈ GW := gwt (i := 1892) (by decide +kernel) (by decide +kernel)
theorem w1893 : ((Jvm.Cond.code ⟨"EchoGorgeModel","ticksTo","(II)I"⟩ prog_14_method_79_code 9 (Option.some Jvm.ClassFile.FieldType.int)) : Cond) ∈ GW := gwt (i := 1893) (by decide +kernel) (by decide +kernel)
theorem w1894 : ((Jvm.Cond.methodLink "EchoGorgeLaw" 172 ⟨"EchoGorgeModel","moved","(IIIII)I"⟩) : Cond) ∈ GW := gwt (i := 1894) (by decide +kernel) (by decide +kernel)
theorem w1895 : ((Jvm.Cond.instanceMethod ⟨"EchoGorgeModel","moved","(IIIII)I"⟩) : Cond) ∈ GW := gwt (i := 1895) (by decide +kernel) (by decide +kernel)
theorem w1896 : ((Jvm.Cond.selects "EchoGorgeModel" ⟨"EchoGorgeModel","moved","(IIIII)I"⟩ ⟨"EchoGorgeModel","moved","(IIIII)I"⟩) : Cond) ∈ GW := gwt (i := 1896) (by decide +kernel) (by decide +kernel)
theorem w1897 : ((Jvm.Cond.code ⟨"EchoGorgeModel","moved","(IIIII)I"⟩ prog_14_method_82_code 11 (Option.some Jvm.ClassFile.FieldType.int)) : Cond) ∈ GW := gwt (i := 1897) (by decide +kernel) (by decide +kernel)
theorem w1898 : ((Jvm.Cond.methodLink "EchoGorgeLaw" 175 ⟨"EchoGorgeModel","code","(II)I"⟩) : Cond) ∈ GW := gwt (i := 1898) (by decide +kernel) (by decide +kernel)
theorem w1899 : ((Jvm.Cond.instanceMethod ⟨"EchoGorgeModel","code","(II)I"⟩) : Cond) ∈ GW := gwt (i := 1899) (by decide +kernel) (by decide +kernel)
theorem w1900 : ((Jvm.Cond.selects "EchoGorgeModel" ⟨"EchoGorgeModel","code","(II)I"⟩ ⟨"EchoGorgeModel","code","(II)I"⟩) : Cond) ∈ GW := gwt (i := 1900) (by decide +kernel) (by decide +kernel)
theorem w1901 : ((Jvm.Cond.code ⟨"EchoGorgeModel","code","(II)I"⟩ prog_14_method_84_code 11 (Option.some Jvm.ClassFile.FieldType.int)) : Cond) ∈ GW := gwt (i := 1901) (by decide +kernel) (by decide +kernel)
theorem w1902 : ((Jvm.Cond.methodLink "EchoGorgeModel" 454 ⟨"EchoGorgeModel","falls","(I)V"⟩) : Cond) ∈ GW := gwt (i := 1902) (by decide +kernel) (by decide +kernel)
theorem w1904 : ((Jvm.Cond.instanceMethod ⟨"EchoGorgeModel","falls","(I)V"⟩) : Cond) ∈ GW := gwt (i := 1904) (by decide +kernel) (by decide +kernel)
theorem w1905 : ((Jvm.Cond.code ⟨"EchoGorgeModel","falls","(I)V"⟩ prog_14_method_83_code 4 (Option.none : Option Jvm.ClassFile.FieldType)) : Cond) ∈ GW := gwt (i := 1905) (by decide +kernel) (by decide +kernel)
theorem w1906 : ((Jvm.Cond.constant "EchoGorgeModel" 457 (65536 : Int32)) : Cond) ∈ GW := gwt (i := 1906) (by decide +kernel) (by decide +kernel)
theorem w1907 : ((Jvm.Cond.methodLink "EchoGorgeLaw" 179 ⟨"EchoGorgeModel","image","()V"⟩) : Cond) ∈ GW := gwt (i := 1907) (by decide +kernel) (by decide +kernel)
theorem w1908 : ((Jvm.Cond.instanceMethod ⟨"EchoGorgeModel","image","()V"⟩) : Cond) ∈ GW := gwt (i := 1908) (by decide +kernel) (by decide +kernel)
theorem w1909 : ((Jvm.Cond.selects "EchoGorgeModel" ⟨"EchoGorgeModel","image","()V"⟩ ⟨"EchoGorgeModel","image","()V"⟩) : Cond) ∈ GW := gwt (i := 1909) (by decide +kernel) (by decide +kernel)
theorem w1910 : ((Jvm.Cond.code ⟨"EchoGorgeModel","image","()V"⟩ prog_14_method_85_code 1 (Option.none : Option Jvm.ClassFile.FieldType)) : Cond) ∈ GW := gwt (i := 1910) (by decide +kernel) (by decide +kernel)
theorem w1911 : ((Jvm.Cond.methodLink "EchoGorgeLaw" 184 ⟨"EchoGorgeModel","restore","()Z"⟩) : Cond) ∈ GW := gwt (i := 1911) (by decide +kernel) (by decide +kernel)
theorem w1912 : ((Jvm.Cond.instanceMethod ⟨"EchoGorgeModel","restore","()Z"⟩) : Cond) ∈ GW := gwt (i := 1912) (by decide +kernel) (by decide +kernel)
theorem w1913 : ((Jvm.Cond.selects "EchoGorgeModel" ⟨"EchoGorgeModel","restore","()Z"⟩ ⟨"EchoGorgeModel","restore","()Z"⟩) : Cond) ∈ GW := gwt (i := 1913) (by decide +kernel) (by decide +kernel)
theorem w1914 : ((Jvm.Cond.code ⟨"EchoGorgeModel","restore","()Z"⟩ prog_14_method_86_code 1 (Option.some Jvm.ClassFile.FieldType.boolean)) : Cond) ∈ GW := gwt (i := 1914) (by decide +kernel) (by decide +kernel)
theorem v39 : ((Jvm.Cond.selects "EchoGorge$Chant" ⟨"EchoGorge$Chant","listen","(LEchoGorge$Gorge;LEchoGorge$Returns;LEchoGorge$Scene;II)I"⟩ ⟨"EchoGorge$Chant","listen","(LEchoGorge$Gorge;LEchoGorge$Returns;LEchoGorge$Scene;II)I"⟩) : Cond) ∈ GW := gws (i := 39) (by decide +kernel) (by decide +kernel)
theorem v51 : ((Jvm.Cond.selects "EchoGorge$Claps" ⟨"EchoGorge$Claps","heardGaps","(LEchoGorge$Hearing;)I"⟩ ⟨"EchoGorge$Claps","heardGaps","(LEchoGorge$Hearing;)I"⟩) : Cond) ∈ GW := gws (i := 51) (by decide +kernel) (by decide +kernel)
theorem v52 : ((Jvm.Cond.selects "EchoGorge$Claps" ⟨"EchoGorge$Claps","extend","(II)V"⟩ ⟨"EchoGorge$Claps","extend","(II)V"⟩) : Cond) ∈ GW := gws (i := 52) (by decide +kernel) (by decide +kernel)
theorem v53 : ((Jvm.Cond.selects "EchoGorge$Claps" ⟨"EchoGorge$Claps","weigh","(I)V"⟩ ⟨"EchoGorge$Claps","weigh","(I)V"⟩) : Cond) ∈ GW := gws (i := 53) (by decide +kernel) (by decide +kernel)
theorem v44 : ((Jvm.Cond.selects "EchoGorge$Guess" ⟨"EchoGorge$Guess","greatestGroup","(LEchoGorge$Gorge;I)I"⟩ ⟨"EchoGorge$Guess","greatestGroup","(LEchoGorge$Gorge;I)I"⟩) : Cond) ∈ GW := gws (i := 44) (by decide +kernel) (by decide +kernel)
theorem v40 : ((Jvm.Cond.selects "EchoGorge$Guess" ⟨"EchoGorge$Guess","searchAll","(LEchoGorge$Gorge;LEchoGorge$Scene;LEchoGorge$Hearing;)V"⟩ ⟨"EchoGorge$Guess","searchAll","(LEchoGorge$Gorge;LEchoGorge$Scene;LEchoGorge$Hearing;)V"⟩) : Cond) ∈ GW := gws (i := 40) (by decide +kernel) (by decide +kernel)
theorem v43 : ((Jvm.Cond.selects "EchoGorge$Guess" ⟨"EchoGorge$Guess","findNext","(LEchoGorge$Gorge;)V"⟩ ⟨"EchoGorge$Guess","findNext","(LEchoGorge$Gorge;)V"⟩) : Cond) ∈ GW := gws (i := 43) (by decide +kernel) (by decide +kernel)
theorem v41 : ((Jvm.Cond.selects "EchoGorge$Guess" ⟨"EchoGorge$Guess","firstMiss","(LEchoGorge$Gorge;LEchoGorge$Scene;LEchoGorge$Hearing;)I"⟩ ⟨"EchoGorge$Guess","firstMiss","(LEchoGorge$Gorge;LEchoGorge$Scene;LEchoGorge$Hearing;)I"⟩) : Cond) ∈ GW := gws (i := 41) (by decide +kernel) (by decide +kernel)
theorem v42 : ((Jvm.Cond.selects "EchoGorge$Guess" ⟨"EchoGorge$Guess","take","(II)V"⟩ ⟨"EchoGorge$Guess","take","(II)V"⟩) : Cond) ∈ GW := gws (i := 42) (by decide +kernel) (by decide +kernel)
theorem v49 : ((Jvm.Cond.selects "EchoGorge$Places" ⟨"EchoGorge$Places","ticksTo","(LEchoGorge$Scene;III)I"⟩ ⟨"EchoGorge$Places","ticksTo","(LEchoGorge$Scene;III)I"⟩) : Cond) ∈ GW := gws (i := 49) (by decide +kernel) (by decide +kernel)
theorem v48 : ((Jvm.Cond.selects "EchoGorge$Places" ⟨"EchoGorge$Places","matches","(LEchoGorge$Scene;IIII)Z"⟩ ⟨"EchoGorge$Places","matches","(LEchoGorge$Scene;IIII)Z"⟩) : Cond) ∈ GW := gws (i := 48) (by decide +kernel) (by decide +kernel)
theorem v50 : ((Jvm.Cond.selects "EchoGorge$Places" ⟨"EchoGorge$Places","chartedNear","(III)I"⟩ ⟨"EchoGorge$Places","chartedNear","(III)I"⟩) : Cond) ∈ GW := gws (i := 50) (by decide +kernel) (by decide +kernel)
theorem v5 : ((Jvm.Cond.selects "EchoGorge$Reader" ⟨"EchoGorge$Reader","readSound","()Z"⟩ ⟨"EchoGorge$Reader","readSound","()Z"⟩) : Cond) ∈ GW := gws (i := 5) (by decide +kernel) (by decide +kernel)
theorem v9 : ((Jvm.Cond.selects "EchoGorge$Reader" ⟨"EchoGorge$Reader","readWall","()Z"⟩ ⟨"EchoGorge$Reader","readWall","()Z"⟩) : Cond) ∈ GW := gws (i := 9) (by decide +kernel) (by decide +kernel)
theorem v12 : ((Jvm.Cond.selects "EchoGorge$Reader" ⟨"EchoGorge$Reader","readStraight","()Z"⟩ ⟨"EchoGorge$Reader","readStraight","()Z"⟩) : Cond) ∈ GW := gws (i := 12) (by decide +kernel) (by decide +kernel)
theorem v13 : ((Jvm.Cond.selects "EchoGorge$Reader" ⟨"EchoGorge$Reader","readAir","()Z"⟩ ⟨"EchoGorge$Reader","readAir","()Z"⟩) : Cond) ∈ GW := gws (i := 13) (by decide +kernel) (by decide +kernel)
theorem v14 : ((Jvm.Cond.selects "EchoGorge$Reader" ⟨"EchoGorge$Reader","readMask","()Z"⟩ ⟨"EchoGorge$Reader","readMask","()Z"⟩) : Cond) ∈ GW := gws (i := 14) (by decide +kernel) (by decide +kernel)
theorem v15 : ((Jvm.Cond.selects "EchoGorge$Reader" ⟨"EchoGorge$Reader","readSweet","()Z"⟩ ⟨"EchoGorge$Reader","readSweet","()Z"⟩) : Cond) ∈ GW := gws (i := 15) (by decide +kernel) (by decide +kernel)
theorem v17 : ((Jvm.Cond.selects "EchoGorge$Reader" ⟨"EchoGorge$Reader","readWord","()Z"⟩ ⟨"EchoGorge$Reader","readWord","()Z"⟩) : Cond) ∈ GW := gws (i := 17) (by decide +kernel) (by decide +kernel)
theorem v18 : ((Jvm.Cond.selects "EchoGorge$Reader" ⟨"EchoGorge$Reader","readForm","()Z"⟩ ⟨"EchoGorge$Reader","readForm","()Z"⟩) : Cond) ∈ GW := gws (i := 18) (by decide +kernel) (by decide +kernel)
theorem v8 : ((Jvm.Cond.selects "EchoGorge$Reader" ⟨"EchoGorge$Reader","readEnd","()Z"⟩ ⟨"EchoGorge$Reader","readEnd","()Z"⟩) : Cond) ∈ GW := gws (i := 8) (by decide +kernel) (by decide +kernel)
theorem v10 : ((Jvm.Cond.selects "EchoGorge$Reader" ⟨"EchoGorge$Reader","readSwallows","(I)Z"⟩ ⟨"EchoGorge$Reader","readSwallows","(I)Z"⟩) : Cond) ∈ GW := gws (i := 10) (by decide +kernel) (by decide +kernel)
theorem v11 : ((Jvm.Cond.selects "EchoGorge$Reader" ⟨"EchoGorge$Reader","readAgain","(I)Z"⟩ ⟨"EchoGorge$Reader","readAgain","(I)Z"⟩) : Cond) ∈ GW := gws (i := 11) (by decide +kernel) (by decide +kernel)
theorem v16 : ((Jvm.Cond.selects "EchoGorge$Reader" ⟨"EchoGorge$Reader","isToldSound","()Z"⟩ ⟨"EchoGorge$Reader","isToldSound","()Z"⟩) : Cond) ∈ GW := gws (i := 16) (by decide +kernel) (by decide +kernel)
theorem v2 : ((Jvm.Cond.selects "EchoGorge$Reader" ⟨"EchoGorge$Reader","step","()V"⟩ ⟨"EchoGorge$Reader","step","()V"⟩) : Cond) ∈ GW := gws (i := 2) (by decide +kernel) (by decide +kernel)
theorem v3 : ((Jvm.Cond.selects "EchoGorge$Reader" ⟨"EchoGorge$Reader","readLine","()Z"⟩ ⟨"EchoGorge$Reader","readLine","()Z"⟩) : Cond) ∈ GW := gws (i := 3) (by decide +kernel) (by decide +kernel)
theorem v6 : ((Jvm.Cond.selects "EchoGorge$Reader" ⟨"EchoGorge$Reader","fail","(I)Z"⟩ ⟨"EchoGorge$Reader","fail","(I)Z"⟩) : Cond) ∈ GW := gws (i := 6) (by decide +kernel) (by decide +kernel)
theorem v7 : ((Jvm.Cond.selects "EchoGorge$Reader" ⟨"EchoGorge$Reader","isNumber","(II)Z"⟩ ⟨"EchoGorge$Reader","isNumber","(II)Z"⟩) : Cond) ∈ GW := gws (i := 7) (by decide +kernel) (by decide +kernel)
theorem v4 : ((Jvm.Cond.selects "EchoGorge$Reader" ⟨"EchoGorge$Reader","spells","(Ljava/lang/String;)Z"⟩ ⟨"EchoGorge$Reader","spells","(Ljava/lang/String;)Z"⟩) : Cond) ∈ GW := gws (i := 4) (by decide +kernel) (by decide +kernel)
theorem v25 : ((Jvm.Cond.selects "EchoGorge$Returns" ⟨"EchoGorge$Returns","place","(I)I"⟩ ⟨"EchoGorge$Returns","place","(I)I"⟩) : Cond) ∈ GW := gws (i := 25) (by decide +kernel) (by decide +kernel)
theorem v26 : ((Jvm.Cond.selects "EchoGorge$Returns" ⟨"EchoGorge$Returns","addWall","(LEchoGorge$Gorge;I)V"⟩ ⟨"EchoGorge$Returns","addWall","(LEchoGorge$Gorge;I)V"⟩) : Cond) ∈ GW := gws (i := 26) (by decide +kernel) (by decide +kernel)
theorem v45 : ((Jvm.Cond.selects "EchoGorge$Truth" ⟨"EchoGorge$Truth","isHeardAsTold","(III)Z"⟩ ⟨"EchoGorge$Truth","isHeardAsTold","(III)Z"⟩) : Cond) ∈ GW := gws (i := 45) (by decide +kernel) (by decide +kernel)
theorem v46 : ((Jvm.Cond.selects "EchoGorge$Truth" ⟨"EchoGorge$Truth","search","(III)V"⟩ ⟨"EchoGorge$Truth","search","(III)V"⟩) : Cond) ∈ GW := gws (i := 46) (by decide +kernel) (by decide +kernel)
theorem v47 : ((Jvm.Cond.selects "EchoGorge$Truth" ⟨"EchoGorge$Truth","take","(I)V"⟩ ⟨"EchoGorge$Truth","take","(I)V"⟩) : Cond) ∈ GW := gws (i := 47) (by decide +kernel) (by decide +kernel)
theorem v34 : ((Jvm.Cond.selects "EchoGorge$Verses" ⟨"EchoGorge$Verses","fittingPlaces","(I)I"⟩ ⟨"EchoGorge$Verses","fittingPlaces","(I)I"⟩) : Cond) ∈ GW := gws (i := 34) (by decide +kernel) (by decide +kernel)
theorem v35 : ((Jvm.Cond.selects "EchoGorge$Verses" ⟨"EchoGorge$Verses","layKind","(II)I"⟩ ⟨"EchoGorge$Verses","layKind","(II)I"⟩) : Cond) ∈ GW := gws (i := 35) (by decide +kernel) (by decide +kernel)
theorem v32 : ((Jvm.Cond.selects "EchoGorge$Verses" ⟨"EchoGorge$Verses","fitsAt","(II)Z"⟩ ⟨"EchoGorge$Verses","fitsAt","(II)Z"⟩) : Cond) ∈ GW := gws (i := 32) (by decide +kernel) (by decide +kernel)
theorem v27 : ((Jvm.Cond.selects "EchoGorge$Verses" ⟨"EchoGorge$Verses","surveyForm","(IIILEchoGorge$Hearing;LEchoGorge$Returns;)V"⟩ ⟨"EchoGorge$Verses","surveyForm","(IIILEchoGorge$Hearing;LEchoGorge$Returns;)V"⟩) : Cond) ∈ GW := gws (i := 27) (by decide +kernel) (by decide +kernel)
theorem v28 : ((Jvm.Cond.selects "EchoGorge$Verses" ⟨"EchoGorge$Verses","spell","(II)V"⟩ ⟨"EchoGorge$Verses","spell","(II)V"⟩) : Cond) ∈ GW := gws (i := 28) (by decide +kernel) (by decide +kernel)
theorem v29 : ((Jvm.Cond.selects "EchoGorge$Verses" ⟨"EchoGorge$Verses","listen","(LEchoGorge$Hearing;LEchoGorge$Returns;)Z"⟩ ⟨"EchoGorge$Verses","listen","(LEchoGorge$Hearing;LEchoGorge$Returns;)Z"⟩) : Cond) ∈ GW := gws (i := 29) (by decide +kernel) (by decide +kernel)
theorem v30 : ((Jvm.Cond.selects "EchoGorge$Verses" ⟨"EchoGorge$Verses","weigh","(III)I"⟩ ⟨"EchoGorge$Verses","weigh","(III)I"⟩) : Cond) ∈ GW := gws (i := 30) (by decide +kernel) (by decide +kernel)
theorem v31 : ((Jvm.Cond.selects "EchoGorge$Verses" ⟨"EchoGorge$Verses","isEchoed","(I)Z"⟩ ⟨"EchoGorge$Verses","isEchoed","(I)Z"⟩) : Cond) ∈ GW := gws (i := 31) (by decide +kernel) (by decide +kernel)
theorem v33 : ((Jvm.Cond.selects "EchoGorge$Verses" ⟨"EchoGorge$Verses","isLine","()Z"⟩ ⟨"EchoGorge$Verses","isLine","()Z"⟩) : Cond) ∈ GW := gws (i := 33) (by decide +kernel) (by decide +kernel)
theorem v36 : ((Jvm.Cond.selects "EchoGorge$Verses" ⟨"EchoGorge$Verses","answersNow","(II)Z"⟩ ⟨"EchoGorge$Verses","answersNow","(II)Z"⟩) : Cond) ∈ GW := gws (i := 36) (by decide +kernel) (by decide +kernel)
theorem v37 : ((Jvm.Cond.selects "EchoGorge$Verses" ⟨"EchoGorge$Verses","searchFog","(ILEchoGorge$Hearing;LEchoGorge$Returns;)I"⟩ ⟨"EchoGorge$Verses","searchFog","(ILEchoGorge$Hearing;LEchoGorge$Returns;)I"⟩) : Cond) ∈ GW := gws (i := 37) (by decide +kernel) (by decide +kernel)
theorem v38 : ((Jvm.Cond.selects "EchoGorge$Verses" ⟨"EchoGorge$Verses","changesShares","(I)Z"⟩ ⟨"EchoGorge$Verses","changesShares","(I)Z"⟩) : Cond) ∈ GW := gws (i := 38) (by decide +kernel) (by decide +kernel)
theorem v19 : ((Jvm.Cond.selects "EchoGorge$Verses" ⟨"EchoGorge$Verses","measureForm","(I)V"⟩ ⟨"EchoGorge$Verses","measureForm","(I)V"⟩) : Cond) ∈ GW := gws (i := 19) (by decide +kernel) (by decide +kernel)
theorem v0 : ((Jvm.Cond.selects "EchoGorge" ⟨"EchoGorge","tapeNumber","(I)V"⟩ ⟨"EchoGorge","tapeNumber","(I)V"⟩) : Cond) ∈ GW := gws (i := 0) (by decide +kernel) (by decide +kernel)
theorem v20 : ((Jvm.Cond.selects "EchoGorge" ⟨"EchoGorge","needWall","(I)V"⟩ ⟨"EchoGorge","needWall","(I)V"⟩) : Cond) ∈ GW := gws (i := 20) (by decide +kernel) (by decide +kernel)
theorem v21 : ((Jvm.Cond.selects "EchoGorge" ⟨"EchoGorge","needSound","(I)V"⟩ ⟨"EchoGorge","needSound","(I)V"⟩) : Cond) ∈ GW := gws (i := 21) (by decide +kernel) (by decide +kernel)
theorem v22 : ((Jvm.Cond.selects "EchoGorge" ⟨"EchoGorge","needMoment","(III)V"⟩ ⟨"EchoGorge","needMoment","(III)V"⟩) : Cond) ∈ GW := gws (i := 22) (by decide +kernel) (by decide +kernel)
theorem v24 : ((Jvm.Cond.selects "EchoGorge" ⟨"EchoGorge","needHour","(I)V"⟩ ⟨"EchoGorge","needHour","(I)V"⟩) : Cond) ∈ GW := gws (i := 24) (by decide +kernel) (by decide +kernel)
theorem v23 : ((Jvm.Cond.selects "EchoGorge" ⟨"EchoGorge","needEar","(I)V"⟩ ⟨"EchoGorge","needEar","(I)V"⟩) : Cond) ∈ GW := gws (i := 23) (by decide +kernel) (by decide +kernel)
theorem v54 : ((Jvm.Cond.selects "EchoGorgeModel" ⟨"EchoGorgeModel","lays","(I)V"⟩ ⟨"EchoGorgeModel","lays","(I)V"⟩) : Cond) ∈ GW := gws (i := 54) (by decide +kernel) (by decide +kernel)
theorem v57 : ((Jvm.Cond.selects "EchoGorgeModel" ⟨"EchoGorgeModel","byteAt","(I)I"⟩ ⟨"EchoGorgeModel","byteAt","(I)I"⟩) : Cond) ∈ GW := gws (i := 57) (by decide +kernel) (by decide +kernel)
theorem v58 : ((Jvm.Cond.selects "EchoGorgeModel" ⟨"EchoGorgeModel","isGood","()Z"⟩ ⟨"EchoGorgeModel","isGood","()Z"⟩) : Cond) ∈ GW := gws (i := 58) (by decide +kernel) (by decide +kernel)
theorem v56 : ((Jvm.Cond.selects "EchoGorgeModel" ⟨"EchoGorgeModel","steps","()V"⟩ ⟨"EchoGorgeModel","steps","()V"⟩) : Cond) ∈ GW := gws (i := 56) (by decide +kernel) (by decide +kernel)
theorem v61 : ((Jvm.Cond.selects "EchoGorgeModel" ⟨"EchoGorgeModel","wrong","(I)V"⟩ ⟨"EchoGorgeModel","wrong","(I)V"⟩) : Cond) ∈ GW := gws (i := 61) (by decide +kernel) (by decide +kernel)
theorem v62 : ((Jvm.Cond.selects "EchoGorgeModel" ⟨"EchoGorgeModel","number","(II)I"⟩ ⟨"EchoGorgeModel","number","(II)I"⟩) : Cond) ∈ GW := gws (i := 62) (by decide +kernel) (by decide +kernel)
theorem v60 : ((Jvm.Cond.selects "EchoGorgeModel" ⟨"EchoGorgeModel","is","(I)Z"⟩ ⟨"EchoGorgeModel","is","(I)Z"⟩) : Cond) ∈ GW := gws (i := 60) (by decide +kernel) (by decide +kernel)
theorem v66 : ((Jvm.Cond.selects "EchoGorgeModel" ⟨"EchoGorgeModel","soundHere","()Z"⟩ ⟨"EchoGorgeModel","soundHere","()Z"⟩) : Cond) ∈ GW := gws (i := 66) (by decide +kernel) (by decide +kernel)
theorem v63 : ((Jvm.Cond.selects "EchoGorgeModel" ⟨"EchoGorgeModel","readsWall","()V"⟩ ⟨"EchoGorgeModel","readsWall","()V"⟩) : Cond) ∈ GW := gws (i := 63) (by decide +kernel) (by decide +kernel)
theorem v64 : ((Jvm.Cond.selects "EchoGorgeModel" ⟨"EchoGorgeModel","readsAir","()V"⟩ ⟨"EchoGorgeModel","readsAir","()V"⟩) : Cond) ∈ GW := gws (i := 64) (by decide +kernel) (by decide +kernel)
theorem v65 : ((Jvm.Cond.selects "EchoGorgeModel" ⟨"EchoGorgeModel","readsSweet","()V"⟩ ⟨"EchoGorgeModel","readsSweet","()V"⟩) : Cond) ∈ GW := gws (i := 65) (by decide +kernel) (by decide +kernel)
theorem v67 : ((Jvm.Cond.selects "EchoGorgeModel" ⟨"EchoGorgeModel","readsWord","()V"⟩ ⟨"EchoGorgeModel","readsWord","()V"⟩) : Cond) ∈ GW := gws (i := 67) (by decide +kernel) (by decide +kernel)
theorem v68 : ((Jvm.Cond.selects "EchoGorgeModel" ⟨"EchoGorgeModel","readsForm","()V"⟩ ⟨"EchoGorgeModel","readsForm","()V"⟩) : Cond) ∈ GW := gws (i := 68) (by decide +kernel) (by decide +kernel)
theorem v69 : ((Jvm.Cond.selects "EchoGorgeModel" ⟨"EchoGorgeModel","need","(Z)V"⟩ ⟨"EchoGorgeModel","need","(Z)V"⟩) : Cond) ∈ GW := gws (i := 69) (by decide +kernel) (by decide +kernel)
theorem v55 : ((Jvm.Cond.selects "EchoGorgeModel" ⟨"EchoGorgeModel","right","(ZI)Z"⟩ ⟨"EchoGorgeModel","right","(ZI)Z"⟩) : Cond) ∈ GW := gws (i := 55) (by decide +kernel) (by decide +kernel)
theorem v59 : ((Jvm.Cond.selects "EchoGorgeModel" ⟨"EchoGorgeModel","line","()V"⟩ ⟨"EchoGorgeModel","line","()V"⟩) : Cond) ∈ GW := gws (i := 59) (by decide +kernel) (by decide +kernel)
theorem v70 : ((Jvm.Cond.selects "EchoGorgeModel" ⟨"EchoGorgeModel","copies","([I[I)V"⟩ ⟨"EchoGorgeModel","copies","([I[I)V"⟩) : Cond) ∈ GW := gws (i := 70) (by decide +kernel) (by decide +kernel)
theorem v71 : ((Jvm.Cond.selects "EchoGorgeModel" ⟨"EchoGorgeModel","allLines","()I"⟩ ⟨"EchoGorgeModel","allLines","()I"⟩) : Cond) ∈ GW := gws (i := 71) (by decide +kernel) (by decide +kernel)
theorem v80 : ((Jvm.Cond.selects "EchoGorgeModel" ⟨"EchoGorgeModel","comes","(III)V"⟩ ⟨"EchoGorgeModel","comes","(III)V"⟩) : Cond) ∈ GW := gws (i := 80) (by decide +kernel) (by decide +kernel)
theorem v75 : ((Jvm.Cond.selects "EchoGorgeModel" ⟨"EchoGorgeModel","isSound","(I)Z"⟩ ⟨"EchoGorgeModel","isSound","(I)Z"⟩) : Cond) ∈ GW := gws (i := 75) (by decide +kernel) (by decide +kernel)
theorem v78 : ((Jvm.Cond.selects "EchoGorgeModel" ⟨"EchoGorgeModel","opens","(III)V"⟩ ⟨"EchoGorgeModel","opens","(III)V"⟩) : Cond) ∈ GW := gws (i := 78) (by decide +kernel) (by decide +kernel)
theorem v79 : ((Jvm.Cond.selects "EchoGorgeModel" ⟨"EchoGorgeModel","says","(II)V"⟩ ⟨"EchoGorgeModel","says","(II)V"⟩) : Cond) ∈ GW := gws (i := 79) (by decide +kernel) (by decide +kernel)
theorem v76 : ((Jvm.Cond.selects "EchoGorgeModel" ⟨"EchoGorgeModel","isWhere","(III)Z"⟩ ⟨"EchoGorgeModel","isWhere","(III)Z"⟩) : Cond) ∈ GW := gws (i := 76) (by decide +kernel) (by decide +kernel)
theorem v77 : ((Jvm.Cond.selects "EchoGorgeModel" ⟨"EchoGorgeModel","allSaid","(III)V"⟩ ⟨"EchoGorgeModel","allSaid","(III)V"⟩) : Cond) ∈ GW := gws (i := 77) (by decide +kernel) (by decide +kernel)
theorem v81 : ((Jvm.Cond.selects "EchoGorgeModel" ⟨"EchoGorgeModel","hears","(I)I"⟩ ⟨"EchoGorgeModel","hears","(I)I"⟩) : Cond) ∈ GW := gws (i := 81) (by decide +kernel) (by decide +kernel)
theorem v73 : ((Jvm.Cond.selects "EchoGorgeModel" ⟨"EchoGorgeModel","kindOf","(II)I"⟩ ⟨"EchoGorgeModel","kindOf","(II)I"⟩) : Cond) ∈ GW := gws (i := 73) (by decide +kernel) (by decide +kernel)
theorem v74 : ((Jvm.Cond.selects "EchoGorgeModel" ⟨"EchoGorgeModel","wordsOf","(I)I"⟩ ⟨"EchoGorgeModel","wordsOf","(I)I"⟩) : Cond) ∈ GW := gws (i := 74) (by decide +kernel) (by decide +kernel)
theorem v72 : ((Jvm.Cond.selects "EchoGorgeModel" ⟨"EchoGorgeModel","linesOf","(I)I"⟩ ⟨"EchoGorgeModel","linesOf","(I)I"⟩) : Cond) ∈ GW := gws (i := 72) (by decide +kernel) (by decide +kernel)
theorem v85 : ((Jvm.Cond.selects "EchoGorgeModel" ⟨"EchoGorgeModel","nextForm","()Z"⟩ ⟨"EchoGorgeModel","nextForm","()Z"⟩) : Cond) ∈ GW := gws (i := 85) (by decide +kernel) (by decide +kernel)
theorem v86 : ((Jvm.Cond.selects "EchoGorgeModel" ⟨"EchoGorgeModel","wordBehind","(II)I"⟩ ⟨"EchoGorgeModel","wordBehind","(II)I"⟩) : Cond) ∈ GW := gws (i := 86) (by decide +kernel) (by decide +kernel)
theorem v89 : ((Jvm.Cond.selects "EchoGorgeModel" ⟨"EchoGorgeModel","speaks","()V"⟩ ⟨"EchoGorgeModel","speaks","()V"⟩) : Cond) ∈ GW := gws (i := 89) (by decide +kernel) (by decide +kernel)
theorem v91 : ((Jvm.Cond.selects "EchoGorgeModel" ⟨"EchoGorgeModel","isWordAt","(II)Z"⟩ ⟨"EchoGorgeModel","isWordAt","(II)Z"⟩) : Cond) ∈ GW := gws (i := 91) (by decide +kernel) (by decide +kernel)
theorem v88 : ((Jvm.Cond.selects "EchoGorgeModel" ⟨"EchoGorgeModel","returns","(I)V"⟩ ⟨"EchoGorgeModel","returns","(I)V"⟩) : Cond) ∈ GW := gws (i := 88) (by decide +kernel) (by decide +kernel)
theorem v90 : ((Jvm.Cond.selects "EchoGorgeModel" ⟨"EchoGorgeModel","isLine","()Z"⟩ ⟨"EchoGorgeModel","isLine","()Z"⟩) : Cond) ∈ GW := gws (i := 90) (by decide +kernel) (by decide +kernel)
theorem v84 : ((Jvm.Cond.selects "EchoGorgeModel" ⟨"EchoGorgeModel","firstLine","()Z"⟩ ⟨"EchoGorgeModel","firstLine","()Z"⟩) : Cond) ∈ GW := gws (i := 84) (by decide +kernel) (by decide +kernel)
theorem v87 : ((Jvm.Cond.selects "EchoGorgeModel" ⟨"EchoGorgeModel","answers","(I)Z"⟩ ⟨"EchoGorgeModel","answers","(I)Z"⟩) : Cond) ∈ GW := gws (i := 87) (by decide +kernel) (by decide +kernel)
theorem v92 : ((Jvm.Cond.selects "EchoGorgeModel" ⟨"EchoGorgeModel","isEchoed","()Z"⟩ ⟨"EchoGorgeModel","isEchoed","()Z"⟩) : Cond) ∈ GW := gws (i := 92) (by decide +kernel) (by decide +kernel)
theorem v93 : ((Jvm.Cond.selects "EchoGorgeModel" ⟨"EchoGorgeModel","nextLine","()Z"⟩ ⟨"EchoGorgeModel","nextLine","()Z"⟩) : Cond) ∈ GW := gws (i := 93) (by decide +kernel) (by decide +kernel)
theorem v82 : ((Jvm.Cond.selects "EchoGorgeModel" ⟨"EchoGorgeModel","isHour","(I)Z"⟩ ⟨"EchoGorgeModel","isHour","(I)Z"⟩) : Cond) ∈ GW := gws (i := 82) (by decide +kernel) (by decide +kernel)
theorem v83 : ((Jvm.Cond.selects "EchoGorgeModel" ⟨"EchoGorgeModel","goesThrough","(I)V"⟩ ⟨"EchoGorgeModel","goesThrough","(I)V"⟩) : Cond) ∈ GW := gws (i := 83) (by decide +kernel) (by decide +kernel)
theorem v94 : ((Jvm.Cond.selects "EchoGorgeModel" ⟨"EchoGorgeModel","stillOf","(IIII)I"⟩ ⟨"EchoGorgeModel","stillOf","(IIII)I"⟩) : Cond) ∈ GW := gws (i := 94) (by decide +kernel) (by decide +kernel)
theorem v95 : ((Jvm.Cond.selects "EchoGorgeModel" ⟨"EchoGorgeModel","clashes","(I)I"⟩ ⟨"EchoGorgeModel","clashes","(I)I"⟩) : Cond) ∈ GW := gws (i := 95) (by decide +kernel) (by decide +kernel)
theorem v99 : ((Jvm.Cond.selects "EchoGorgeModel" ⟨"EchoGorgeModel","toldAt","(I)I"⟩ ⟨"EchoGorgeModel","toldAt","(I)I"⟩) : Cond) ∈ GW := gws (i := 99) (by decide +kernel) (by decide +kernel)
theorem v97 : ((Jvm.Cond.selects "EchoGorgeModel" ⟨"EchoGorgeModel","saysBy","(IIII)V"⟩ ⟨"EchoGorgeModel","saysBy","(IIII)V"⟩) : Cond) ∈ GW := gws (i := 97) (by decide +kernel) (by decide +kernel)
theorem v98 : ((Jvm.Cond.selects "EchoGorgeModel" ⟨"EchoGorgeModel","isTold","()Z"⟩ ⟨"EchoGorgeModel","isTold","()Z"⟩) : Cond) ∈ GW := gws (i := 98) (by decide +kernel) (by decide +kernel)
theorem v96 : ((Jvm.Cond.selects "EchoGorgeModel" ⟨"EchoGorgeModel","finds","(I)V"⟩ ⟨"EchoGorgeModel","finds","(I)V"⟩) : Cond) ∈ GW := gws (i := 96) (by decide +kernel) (by decide +kernel)
theorem v100 : ((Jvm.Cond.selects "EchoGorgeModel" ⟨"EchoGorgeModel","group","(II)I"⟩ ⟨"EchoGorgeModel","group","(II)I"⟩) : Cond) ∈ GW := gws (i := 100) (by decide +kernel) (by decide +kernel)
theorem v102 : ((Jvm.Cond.selects "EchoGorgeModel" ⟨"EchoGorgeModel","ticksTo","(II)I"⟩ ⟨"EchoGorgeModel","ticksTo","(II)I"⟩) : Cond) ∈ GW := gws (i := 102) (by decide +kernel) (by decide +kernel)
theorem v101 : ((Jvm.Cond.selects "EchoGorgeModel" ⟨"EchoGorgeModel","matches","(III)Z"⟩ ⟨"EchoGorgeModel","matches","(III)Z"⟩) : Cond) ∈ GW := gws (i := 101) (by decide +kernel) (by decide +kernel)
theorem v103 : ((Jvm.Cond.selects "EchoGorgeModel" ⟨"EchoGorgeModel","falls","(I)V"⟩ ⟨"EchoGorgeModel","falls","(I)V"⟩) : Cond) ∈ GW := gws (i := 103) (by decide +kernel) (by decide +kernel)
theorem lX0_23 : Fk RX0 23 8 8 5 0 0 := ⟨RX8, TX8, tyX8, ci_X8, by decide, rfl, w210⟩
theorem lX0_39 : Fk RX0 39 7 9 2 0 0 := ⟨RX7, TX7, tyX7, ci_X7, by decide, rfl, w294⟩
theorem lX0_44 : Fk RX0 44 7 9 0 4 1 := ⟨RX7, TX7, tyX7, ci_X7, by decide, rfl, w287⟩
theorem lX0_53 : Fk RX0 53 8 8 4 4 3 := ⟨RX8, TX8, tyX8, ci_X8, by decide, rfl, w207⟩
theorem lX0_56 : Fk RX0 56 7 9 1 4 2 := ⟨RX7, TX7, tyX7, ci_X7, by decide, rfl, w290⟩
theorem lX0_59 : Fk RX0 59 2 21 0 0 0 := ⟨RX2, TX2, tyX2, ci_X2, by decide, rfl, w50⟩
theorem lX0_64 : Fk RX0 64 2 21 4 0 0 := ⟨RX2, TX2, tyX2, ci_X2, by decide, rfl, w69⟩
theorem lX0_71 : Fk RX0 71 2 21 9 4 3 := ⟨RX2, TX2, tyX2, ci_X2, by decide, rfl, w89⟩
theorem lX0_9 : Fk RX0 9 0 1 0 4 1 := ⟨RX0, TX0, tyX0, ci_X0, by decide, rfl, w420⟩
theorem lX1_15 : Fk RX1 15 1 5 1 4 2 := ⟨RX1, TX1, tyX1, ci_X1, by decide, rfl, w514⟩
theorem lX1_42 : Fk RX1 42 1 5 2 0 0 := ⟨RX1, TX1, tyX1, ci_X1, by decide, rfl, w515⟩
theorem lX1_46 : Fk RX1 46 1 5 3 0 0 := ⟨RX1, TX1, tyX1, ci_X1, by decide, rfl, w516⟩
theorem lX1_49 : Fk RX1 49 1 5 4 0 0 := ⟨RX1, TX1, tyX1, ci_X1, by decide, rfl, w517⟩
theorem lX1_9 : Fk RX1 9 1 5 0 4 1 := ⟨RX1, TX1, tyX1, ci_X1, by decide, rfl, w512⟩
theorem lX2_15 : Fk RX2 15 2 21 8 4 2 := ⟨RX2, TX2, tyX2, ci_X2, by decide, rfl, w86⟩
theorem lX2_18 : Fk RX2 18 2 21 9 4 3 := ⟨RX2, TX2, tyX2, ci_X2, by decide, rfl, w88⟩
theorem lX2_24 : Fk RX2 24 2 21 11 4 5 := ⟨RX2, TX2, tyX2, ci_X2, by decide, rfl, w95⟩
theorem lX2_27 : Fk RX2 27 2 21 12 4 6 := ⟨RX2, TX2, tyX2, ci_X2, by decide, rfl, w98⟩
theorem lX2_33 : Fk RX2 33 2 21 14 4 8 := ⟨RX2, TX2, tyX2, ci_X2, by decide, rfl, w105⟩
theorem lX2_36 : Fk RX2 36 2 21 15 4 9 := ⟨RX2, TX2, tyX2, ci_X2, by decide, rfl, w108⟩
theorem lX2_57 : Fk RX2 57 2 21 0 0 0 := ⟨RX2, TX2, tyX2, ci_X2, by decide, rfl, w48⟩
theorem lX2_61 : Fk RX2 61 2 21 1 0 0 := ⟨RX2, TX2, tyX2, ci_X2, by decide, rfl, w54⟩
theorem lX2_64 : Fk RX2 64 2 21 2 0 0 := ⟨RX2, TX2, tyX2, ci_X2, by decide, rfl, w59⟩
theorem lX2_67 : Fk RX2 67 2 21 3 0 0 := ⟨RX2, TX2, tyX2, ci_X2, by decide, rfl, w63⟩
theorem lX2_70 : Fk RX2 70 2 21 4 0 0 := ⟨RX2, TX2, tyX2, ci_X2, by decide, rfl, w67⟩
theorem lX2_73 : Fk RX2 73 2 21 5 0 0 := ⟨RX2, TX2, tyX2, ci_X2, by decide, rfl, w73⟩
theorem lX2_76 : Fk RX2 76 2 21 6 0 0 := ⟨RX2, TX2, tyX2, ci_X2, by decide, rfl, w78⟩
theorem lX3_101 : Fk RX3 101 3 8 7 0 0 := ⟨RX3, TX3, tyX3, ci_X3, by decide, rfl, w440⟩
theorem lX3_104 : Fk RX3 104 3 8 6 0 0 := ⟨RX3, TX3, tyX3, ci_X3, by decide, rfl, w439⟩
theorem lX3_107 : Fk RX3 107 2 21 0 0 0 := ⟨RX2, TX2, tyX2, ci_X2, by decide, rfl, w52⟩
theorem lX3_114 : Fk RX3 114 7 9 1 4 2 := ⟨RX7, TX7, tyX7, ci_X7, by decide, rfl, w291⟩
theorem lX3_117 : Fk RX3 117 2 21 4 0 0 := ⟨RX2, TX2, tyX2, ci_X2, by decide, rfl, w70⟩
theorem lX3_120 : Fk RX3 120 2 21 7 4 1 := ⟨RX2, TX2, tyX2, ci_X2, by decide, rfl, w84⟩
theorem lX3_121 : Fk RX3 121 2 21 6 0 0 := ⟨RX2, TX2, tyX2, ci_X2, by decide, rfl, w80⟩
theorem lX3_18 : Fk RX3 18 3 8 1 4 2 := ⟨RX3, TX3, tyX3, ci_X3, by decide, rfl, w434⟩
theorem lX3_22 : Fk RX3 22 3 8 2 1 0 := ⟨RX3, TX3, tyX3, ci_X3, by decide, rfl, w435⟩
theorem lX3_26 : Fk RX3 26 3 8 3 0 0 := ⟨RX3, TX3, tyX3, ci_X3, by decide, rfl, w436⟩
theorem lX3_30 : Fk RX3 30 3 8 5 0 0 := ⟨RX3, TX3, tyX3, ci_X3, by decide, rfl, w438⟩
theorem lX3_33 : Fk RX3 33 2 21 15 4 9 := ⟨RX2, TX2, tyX2, ci_X2, by decide, rfl, w109⟩
theorem lX3_64 : Fk RX3 64 2 21 5 0 0 := ⟨RX2, TX2, tyX2, ci_X2, by decide, rfl, w75⟩
theorem lX3_71 : Fk RX3 71 8 8 0 4 1 := ⟨RX8, TX8, tyX8, ci_X8, by decide, rfl, w196⟩
theorem lX3_9 : Fk RX3 9 3 8 0 4 1 := ⟨RX3, TX3, tyX3, ci_X3, by decide, rfl, w432⟩
theorem lX3_90 : Fk RX3 90 8 8 2 4 2 := ⟨RX8, TX8, tyX8, ci_X8, by decide, rfl, w202⟩
theorem lX3_98 : Fk RX3 98 3 8 4 0 0 := ⟨RX3, TX3, tyX3, ci_X3, by decide, rfl, w437⟩
theorem lX4_15 : Fk RX4 15 4 9 1 4 2 := ⟨RX4, TX4, tyX4, ci_X4, by decide, rfl, w327⟩
theorem lX4_18 : Fk RX4 18 4 9 2 4 3 := ⟨RX4, TX4, tyX4, ci_X4, by decide, rfl, w328⟩
theorem lX4_21 : Fk RX4 21 4 9 3 3 0 := ⟨RX4, TX4, tyX4, ci_X4, by decide, rfl, w329⟩
theorem lX4_25 : Fk RX4 25 4 9 4 3 0 := ⟨RX4, TX4, tyX4, ci_X4, by decide, rfl, w330⟩
theorem lX4_29 : Fk RX4 29 4 9 5 3 0 := ⟨RX4, TX4, tyX4, ci_X4, by decide, rfl, w331⟩
theorem lX4_32 : Fk RX4 32 4 9 6 0 0 := ⟨RX4, TX4, tyX4, ci_X4, by decide, rfl, w332⟩
theorem lX4_36 : Fk RX4 36 4 9 7 0 0 := ⟨RX4, TX4, tyX4, ci_X4, by decide, rfl, w333⟩
theorem lX4_39 : Fk RX4 39 4 9 8 0 0 := ⟨RX4, TX4, tyX4, ci_X4, by decide, rfl, w334⟩
theorem lX4_42 : Fk RX4 42 7 9 2 0 0 := ⟨RX7, TX7, tyX7, ci_X7, by decide, rfl, w292⟩
theorem lX4_47 : Fk RX4 47 7 9 0 4 1 := ⟨RX7, TX7, tyX7, ci_X7, by decide, rfl, w286⟩
theorem lX4_54 : Fk RX4 54 7 9 1 4 2 := ⟨RX7, TX7, tyX7, ci_X7, by decide, rfl, w289⟩
theorem lX4_57 : Fk RX4 57 2 21 4 0 0 := ⟨RX2, TX2, tyX2, ci_X2, by decide, rfl, w68⟩
theorem lX4_62 : Fk RX4 62 2 21 5 0 0 := ⟨RX2, TX2, tyX2, ci_X2, by decide, rfl, w74⟩
theorem lX4_71 : Fk RX4 71 2 21 6 0 0 := ⟨RX2, TX2, tyX2, ci_X2, by decide, rfl, w79⟩
theorem lX4_9 : Fk RX4 9 4 9 0 4 1 := ⟨RX4, TX4, tyX4, ci_X4, by decide, rfl, w326⟩
theorem lX5_15 : Fk RX5 15 5 2 1 4 2 := ⟨RX5, TX5, tyX5, ci_X5, by decide, rfl, w500⟩
theorem lX5_18 : Fk RX5 18 8 8 7 4 5 := ⟨RX8, TX8, tyX8, ci_X8, by decide, rfl, w216⟩
theorem lX5_29 : Fk RX5 29 8 8 6 4 4 := ⟨RX8, TX8, tyX8, ci_X8, by decide, rfl, w213⟩
theorem lX5_9 : Fk RX5 9 5 2 0 4 1 := ⟨RX5, TX5, tyX5, ci_X5, by decide, rfl, w499⟩
theorem lX6_141 : Fk RX6 141 2 21 7 4 1 := ⟨RX2, TX2, tyX2, ci_X2, by decide, rfl, w85⟩
theorem lX6_145 : Fk RX6 145 2 21 8 4 2 := ⟨RX2, TX2, tyX2, ci_X2, by decide, rfl, w87⟩
theorem lX6_151 : Fk RX6 151 2 21 1 0 0 := ⟨RX2, TX2, tyX2, ci_X2, by decide, rfl, w57⟩
theorem lX6_154 : Fk RX6 154 2 21 10 4 4 := ⟨RX2, TX2, tyX2, ci_X2, by decide, rfl, w94⟩
theorem lX6_157 : Fk RX6 157 2 21 11 4 5 := ⟨RX2, TX2, tyX2, ci_X2, by decide, rfl, w97⟩
theorem lX6_160 : Fk RX6 160 2 21 12 4 6 := ⟨RX2, TX2, tyX2, ci_X2, by decide, rfl, w100⟩
theorem lX6_163 : Fk RX6 163 2 21 13 4 7 := ⟨RX2, TX2, tyX2, ci_X2, by decide, rfl, w104⟩
theorem lX6_174 : Fk RX6 174 2 21 14 4 8 := ⟨RX2, TX2, tyX2, ci_X2, by decide, rfl, w107⟩
theorem lX6_176 : Fk RX6 176 2 21 15 4 9 := ⟨RX2, TX2, tyX2, ci_X2, by decide, rfl, w112⟩
theorem lX6_178 : Fk RX6 178 2 21 4 0 0 := ⟨RX2, TX2, tyX2, ci_X2, by decide, rfl, w71⟩
theorem lX6_181 : Fk RX6 181 2 21 5 0 0 := ⟨RX2, TX2, tyX2, ci_X2, by decide, rfl, w77⟩
theorem lX6_184 : Fk RX6 184 2 21 6 0 0 := ⟨RX2, TX2, tyX2, ci_X2, by decide, rfl, w81⟩
theorem lX6_190 : Fk RX6 190 2 21 9 4 3 := ⟨RX2, TX2, tyX2, ci_X2, by decide, rfl, w90⟩
theorem lX6_192 : Fk RX6 192 2 21 2 0 0 := ⟨RX2, TX2, tyX2, ci_X2, by decide, rfl, w62⟩
theorem lX6_195 : Fk RX6 195 2 21 16 4 10 := ⟨RX2, TX2, tyX2, ci_X2, by decide, rfl, w116⟩
theorem lX6_198 : Fk RX6 198 2 21 17 4 11 := ⟨RX2, TX2, tyX2, ci_X2, by decide, rfl, w120⟩
theorem lX6_200 : Fk RX6 200 2 21 18 4 12 := ⟨RX2, TX2, tyX2, ci_X2, by decide, rfl, w124⟩
theorem lX6_203 : Fk RX6 203 2 21 3 0 0 := ⟨RX2, TX2, tyX2, ci_X2, by decide, rfl, w66⟩
theorem lX6_206 : Fk RX6 206 2 21 19 4 13 := ⟨RX2, TX2, tyX2, ci_X2, by decide, rfl, w127⟩
theorem lX6_209 : Fk RX6 209 2 21 20 4 14 := ⟨RX2, TX2, tyX2, ci_X2, by decide, rfl, w130⟩
theorem lX6_21 : Fk RX6 21 6 12 1 0 0 := ⟨RX6, TX6, tyX6, ci_X6, by decide, rfl, w242⟩
theorem lX6_25 : Fk RX6 25 6 12 2 3 0 := ⟨RX6, TX6, tyX6, ci_X6, by decide, rfl, w243⟩
theorem lX6_34 : Fk RX6 34 6 12 5 0 0 := ⟨RX6, TX6, tyX6, ci_X6, by decide, rfl, w246⟩
theorem lX6_37 : Fk RX6 37 6 12 7 0 0 := ⟨RX6, TX6, tyX6, ci_X6, by decide, rfl, w248⟩
theorem lX6_40 : Fk RX6 40 6 12 8 1 0 := ⟨RX6, TX6, tyX6, ci_X6, by decide, rfl, w249⟩
theorem lX6_44 : Fk RX6 44 6 12 9 1 0 := ⟨RX6, TX6, tyX6, ci_X6, by decide, rfl, w250⟩
theorem lX6_47 : Fk RX6 47 6 12 10 0 0 := ⟨RX6, TX6, tyX6, ci_X6, by decide, rfl, w251⟩
theorem lX6_50 : Fk RX6 50 6 12 11 0 0 := ⟨RX6, TX6, tyX6, ci_X6, by decide, rfl, w252⟩
theorem lX6_56 : Fk RX6 56 6 12 3 0 0 := ⟨RX6, TX6, tyX6, ci_X6, by decide, rfl, w244⟩
theorem lX6_63 : Fk RX6 63 6 12 4 0 0 := ⟨RX6, TX6, tyX6, ci_X6, by decide, rfl, w245⟩
theorem lX6_66 : Fk RX6 66 6 12 6 0 0 := ⟨RX6, TX6, tyX6, ci_X6, by decide, rfl, w247⟩
theorem lX6_9 : Fk RX6 9 6 12 0 3 0 := ⟨RX6, TX6, tyX6, ci_X6, by decide, rfl, w241⟩
theorem lX6_94 : Fk RX6 94 2 21 0 0 0 := ⟨RX2, TX2, tyX2, ci_X2, by decide, rfl, w53⟩
theorem lX7_11 : Fk RX7 11 7 9 0 4 1 := ⟨RX7, TX7, tyX7, ci_X7, by decide, rfl, w285⟩
theorem lX7_15 : Fk RX7 15 7 9 1 4 2 := ⟨RX7, TX7, tyX7, ci_X7, by decide, rfl, w288⟩
theorem lX7_18 : Fk RX7 18 7 9 3 4 3 := ⟨RX7, TX7, tyX7, ci_X7, by decide, rfl, w295⟩
theorem lX7_21 : Fk RX7 21 7 9 4 1 0 := ⟨RX7, TX7, tyX7, ci_X7, by decide, rfl, w296⟩
theorem lX7_25 : Fk RX7 25 7 9 5 0 0 := ⟨RX7, TX7, tyX7, ci_X7, by decide, rfl, w297⟩
theorem lX7_29 : Fk RX7 29 7 9 6 0 0 := ⟨RX7, TX7, tyX7, ci_X7, by decide, rfl, w298⟩
theorem lX7_32 : Fk RX7 32 7 9 7 0 0 := ⟨RX7, TX7, tyX7, ci_X7, by decide, rfl, w299⟩
theorem lX7_35 : Fk RX7 35 7 9 8 0 0 := ⟨RX7, TX7, tyX7, ci_X7, by decide, rfl, w300⟩
theorem lX7_38 : Fk RX7 38 7 9 2 0 0 := ⟨RX7, TX7, tyX7, ci_X7, by decide, rfl, w293⟩
theorem lX7_41 : Fk RX7 41 2 21 14 4 8 := ⟨RX2, TX2, tyX2, ci_X2, by decide, rfl, w106⟩
theorem lX7_50 : Fk RX7 50 2 21 7 4 1 := ⟨RX2, TX2, tyX2, ci_X2, by decide, rfl, w83⟩
theorem lX7_51 : Fk RX7 51 2 21 0 0 0 := ⟨RX2, TX2, tyX2, ci_X2, by decide, rfl, w49⟩
theorem lX7_60 : Fk RX7 60 2 21 1 0 0 := ⟨RX2, TX2, tyX2, ci_X2, by decide, rfl, w55⟩
theorem lX7_71 : Fk RX7 71 2 21 10 4 4 := ⟨RX2, TX2, tyX2, ci_X2, by decide, rfl, w92⟩
theorem lX7_74 : Fk RX7 74 2 21 13 4 7 := ⟨RX2, TX2, tyX2, ci_X2, by decide, rfl, w102⟩
theorem lX8_15 : Fk RX8 15 8 8 2 4 2 := ⟨RX8, TX8, tyX8, ci_X8, by decide, rfl, w200⟩
theorem lX8_18 : Fk RX8 18 8 8 4 4 3 := ⟨RX8, TX8, tyX8, ci_X8, by decide, rfl, w206⟩
theorem lX8_21 : Fk RX8 21 8 8 6 4 4 := ⟨RX8, TX8, tyX8, ci_X8, by decide, rfl, w212⟩
theorem lX8_24 : Fk RX8 24 8 8 7 4 5 := ⟨RX8, TX8, tyX8, ci_X8, by decide, rfl, w215⟩
theorem lX8_42 : Fk RX8 42 8 8 5 0 0 := ⟨RX8, TX8, tyX8, ci_X8, by decide, rfl, w209⟩
theorem lX8_46 : Fk RX8 46 8 8 1 0 0 := ⟨RX8, TX8, tyX8, ci_X8, by decide, rfl, w198⟩
theorem lX8_49 : Fk RX8 49 8 8 3 0 0 := ⟨RX8, TX8, tyX8, ci_X8, by decide, rfl, w204⟩
theorem lX8_9 : Fk RX8 9 8 8 0 4 1 := ⟨RX8, TX8, tyX8, ci_X8, by decide, rfl, w195⟩
theorem lX9_15 : Fk RX9 15 9 9 2 4 2 := ⟨RX9, TX9, tyX9, ci_X9, by decide, rfl, w467⟩
theorem lX9_18 : Fk RX9 18 9 9 3 4 3 := ⟨RX9, TX9, tyX9, ci_X9, by decide, rfl, w468⟩
theorem lX9_21 : Fk RX9 21 9 9 1 1 0 := ⟨RX9, TX9, tyX9, ci_X9, by decide, rfl, w466⟩
theorem lX9_25 : Fk RX9 25 9 9 5 3 0 := ⟨RX9, TX9, tyX9, ci_X9, by decide, rfl, w470⟩
theorem lX9_29 : Fk RX9 29 9 9 6 3 0 := ⟨RX9, TX9, tyX9, ci_X9, by decide, rfl, w471⟩
theorem lX9_33 : Fk RX9 33 9 9 7 3 0 := ⟨RX9, TX9, tyX9, ci_X9, by decide, rfl, w472⟩
theorem lX9_37 : Fk RX9 37 9 9 8 3 0 := ⟨RX9, TX9, tyX9, ci_X9, by decide, rfl, w473⟩
theorem lX9_47 : Fk RX9 47 9 9 4 0 0 := ⟨RX9, TX9, tyX9, ci_X9, by decide, rfl, w469⟩
theorem lX9_51 : Fk RX9 51 8 8 2 4 2 := ⟨RX8, TX8, tyX8, ci_X8, by decide, rfl, w201⟩
theorem lX9_9 : Fk RX9 9 9 9 0 4 1 := ⟨RX9, TX9, tyX9, ci_X9, by decide, rfl, w464⟩
theorem lX10_129 : Fk RX10 129 2 21 15 4 9 := ⟨RX2, TX2, tyX2, ci_X2, by decide, rfl, w110⟩
theorem lX10_14 : Fk RX10 14 10 16 0 3 0 := ⟨RX10, TX10, tyX10, ci_X10, by decide, rfl, w363⟩
theorem lX10_170 : Fk RX10 170 2 21 4 0 0 := ⟨RX2, TX2, tyX2, ci_X2, by decide, rfl, w72⟩
theorem lX10_18 : Fk RX10 18 10 16 5 4 16 := ⟨RX10, TX10, tyX10, ci_X10, by decide, rfl, w370⟩
theorem lX10_180 : Fk RX10 180 2 21 1 0 0 := ⟨RX2, TX2, tyX2, ci_X2, by decide, rfl, w58⟩
theorem lX10_22 : Fk RX10 22 10 16 6 4 17 := ⟨RX10, TX10, tyX10, ci_X10, by decide, rfl, w371⟩
theorem lX10_25 : Fk RX10 25 10 16 7 4 18 := ⟨RX10, TX10, tyX10, ci_X10, by decide, rfl, w372⟩
theorem lX10_28 : Fk RX10 28 10 16 8 4 19 := ⟨RX10, TX10, tyX10, ci_X10, by decide, rfl, w373⟩
theorem lX10_31 : Fk RX10 31 10 16 9 4 20 := ⟨RX10, TX10, tyX10, ci_X10, by decide, rfl, w374⟩
theorem lX10_34 : Fk RX10 34 10 16 10 4 21 := ⟨RX10, TX10, tyX10, ci_X10, by decide, rfl, w375⟩
theorem lX10_37 : Fk RX10 37 10 16 11 4 22 := ⟨RX10, TX10, tyX10, ci_X10, by decide, rfl, w376⟩
theorem lX10_40 : Fk RX10 40 10 16 13 4 23 := ⟨RX10, TX10, tyX10, ci_X10, by decide, rfl, w378⟩
theorem lX10_43 : Fk RX10 43 10 16 15 4 24 := ⟨RX10, TX10, tyX10, ci_X10, by decide, rfl, w380⟩
theorem lX10_52 : Fk RX10 52 2 21 2 0 0 := ⟨RX2, TX2, tyX2, ci_X2, by decide, rfl, w60⟩
theorem lX10_56 : Fk RX10 56 2 21 16 4 10 := ⟨RX2, TX2, tyX2, ci_X2, by decide, rfl, w114⟩
theorem lX10_59 : Fk RX10 59 10 16 1 0 0 := ⟨RX10, TX10, tyX10, ci_X10, by decide, rfl, w364⟩
theorem lX10_62 : Fk RX10 62 10 16 2 0 0 := ⟨RX10, TX10, tyX10, ci_X10, by decide, rfl, w366⟩
theorem lX10_65 : Fk RX10 65 10 16 3 0 0 := ⟨RX10, TX10, tyX10, ci_X10, by decide, rfl, w368⟩
theorem lX10_68 : Fk RX10 68 2 21 3 0 0 := ⟨RX2, TX2, tyX2, ci_X2, by decide, rfl, w64⟩
theorem lX10_75 : Fk RX10 75 10 16 4 0 0 := ⟨RX10, TX10, tyX10, ci_X10, by decide, rfl, w369⟩
theorem lX10_78 : Fk RX10 78 2 21 19 4 13 := ⟨RX2, TX2, tyX2, ci_X2, by decide, rfl, w126⟩
theorem lX10_81 : Fk RX10 81 2 21 20 4 14 := ⟨RX2, TX2, tyX2, ci_X2, by decide, rfl, w129⟩
theorem lX10_84 : Fk RX10 84 2 21 17 4 11 := ⟨RX2, TX2, tyX2, ci_X2, by decide, rfl, w118⟩
theorem lX10_93 : Fk RX10 93 10 16 12 0 0 := ⟨RX10, TX10, tyX10, ci_X10, by decide, rfl, w377⟩
theorem lX10_95 : Fk RX10 95 2 21 18 4 12 := ⟨RX2, TX2, tyX2, ci_X2, by decide, rfl, w122⟩
theorem lX10_98 : Fk RX10 98 10 16 14 0 0 := ⟨RX10, TX10, tyX10, ci_X10, by decide, rfl, w379⟩
theorem lX11_100 : Fk RX11 100 11 18 16 4 91 := ⟨RX11, TX11, tyX11, ci_X11, by decide, rfl, w545⟩
theorem lX11_107 : Fk RX11 107 11 18 17 4 94 := ⟨RX11, TX11, tyX11, ci_X11, by decide, rfl, w546⟩
theorem lX11_122 : Fk RX11 122 6 12 11 0 0 := ⟨RX6, TX6, tyX6, ci_X6, by decide, rfl, w253⟩
theorem lX11_13 : Fk RX11 13 11 18 1 0 0 := ⟨RX11, TX11, tyX11, ci_X11, by decide, rfl, w530⟩
theorem lX11_135 : Fk RX11 135 2 21 0 0 0 := ⟨RX2, TX2, tyX2, ci_X2, by decide, rfl, w51⟩
theorem lX11_138 : Fk RX11 138 2 21 1 0 0 := ⟨RX2, TX2, tyX2, ci_X2, by decide, rfl, w56⟩
theorem lX11_141 : Fk RX11 141 2 21 2 0 0 := ⟨RX2, TX2, tyX2, ci_X2, by decide, rfl, w61⟩
theorem lX11_144 : Fk RX11 144 2 21 3 0 0 := ⟨RX2, TX2, tyX2, ci_X2, by decide, rfl, w65⟩
theorem lX11_147 : Fk RX11 147 8 8 1 0 0 := ⟨RX8, TX8, tyX8, ci_X8, by decide, rfl, w199⟩
theorem lX11_150 : Fk RX11 150 8 8 3 0 0 := ⟨RX8, TX8, tyX8, ci_X8, by decide, rfl, w205⟩
theorem lX11_153 : Fk RX11 153 10 16 1 0 0 := ⟨RX10, TX10, tyX10, ci_X10, by decide, rfl, w365⟩
theorem lX11_162 : Fk RX11 162 2 21 10 4 4 := ⟨RX2, TX2, tyX2, ci_X2, by decide, rfl, w93⟩
theorem lX11_165 : Fk RX11 165 2 21 11 4 5 := ⟨RX2, TX2, tyX2, ci_X2, by decide, rfl, w96⟩
theorem lX11_168 : Fk RX11 168 2 21 12 4 6 := ⟨RX2, TX2, tyX2, ci_X2, by decide, rfl, w99⟩
theorem lX11_17 : Fk RX11 17 11 18 2 0 0 := ⟨RX11, TX11, tyX11, ci_X11, by decide, rfl, w531⟩
theorem lX11_171 : Fk RX11 171 2 21 13 4 7 := ⟨RX2, TX2, tyX2, ci_X2, by decide, rfl, w103⟩
theorem lX11_174 : Fk RX11 174 2 21 16 4 10 := ⟨RX2, TX2, tyX2, ci_X2, by decide, rfl, w115⟩
theorem lX11_177 : Fk RX11 177 2 21 17 4 11 := ⟨RX2, TX2, tyX2, ci_X2, by decide, rfl, w119⟩
theorem lX11_180 : Fk RX11 180 2 21 18 4 12 := ⟨RX2, TX2, tyX2, ci_X2, by decide, rfl, w123⟩
theorem lX11_197 : Fk RX11 197 2 21 15 4 9 := ⟨RX2, TX2, tyX2, ci_X2, by decide, rfl, w111⟩
theorem lX11_20 : Fk RX11 20 11 18 3 4 2 := ⟨RX11, TX11, tyX11, ci_X11, by decide, rfl, w532⟩
theorem lX11_204 : Fk RX11 204 8 8 0 4 1 := ⟨RX8, TX8, tyX8, ci_X8, by decide, rfl, w197⟩
theorem lX11_211 : Fk RX11 211 2 21 5 0 0 := ⟨RX2, TX2, tyX2, ci_X2, by decide, rfl, w76⟩
theorem lX11_233 : Fk RX11 233 10 16 2 0 0 := ⟨RX10, TX10, tyX10, ci_X10, by decide, rfl, w367⟩
theorem lX11_256 : Fk RX11 256 8 8 4 4 3 := ⟨RX8, TX8, tyX8, ci_X8, by decide, rfl, w208⟩
theorem lX11_259 : Fk RX11 259 8 8 5 0 0 := ⟨RX8, TX8, tyX8, ci_X8, by decide, rfl, w211⟩
theorem lX11_27 : Fk RX11 27 11 18 4 3 0 := ⟨RX11, TX11, tyX11, ci_X11, by decide, rfl, w533⟩
theorem lX11_270 : Fk RX11 270 8 8 2 4 2 := ⟨RX8, TX8, tyX8, ci_X8, by decide, rfl, w203⟩
theorem lX11_280 : Fk RX11 280 3 8 0 4 1 := ⟨RX3, TX3, tyX3, ci_X3, by decide, rfl, w433⟩
theorem lX11_286 : Fk RX11 286 9 9 0 4 1 := ⟨RX9, TX9, tyX9, ci_X9, by decide, rfl, w465⟩
theorem lX11_290 : Fk RX11 290 8 8 6 4 4 := ⟨RX8, TX8, tyX8, ci_X8, by decide, rfl, w214⟩
theorem lX11_293 : Fk RX11 293 8 8 7 4 5 := ⟨RX8, TX8, tyX8, ci_X8, by decide, rfl, w217⟩
theorem lX11_31 : Fk RX11 31 11 18 5 3 0 := ⟨RX11, TX11, tyX11, ci_X11, by decide, rfl, w534⟩
theorem lX11_315 : Fk RX11 315 1 5 0 4 1 := ⟨RX1, TX1, tyX1, ci_X1, by decide, rfl, w513⟩
theorem lX11_37 : Fk RX11 37 11 18 6 4 33 := ⟨RX11, TX11, tyX11, ci_X11, by decide, rfl, w535⟩
theorem lX11_41 : Fk RX11 41 11 18 7 4 39 := ⟨RX11, TX11, tyX11, ci_X11, by decide, rfl, w536⟩
theorem lX11_44 : Fk RX11 44 11 18 8 1 0 := ⟨RX11, TX11, tyX11, ci_X11, by decide, rfl, w537⟩
theorem lX11_51 : Fk RX11 51 11 18 9 4 45 := ⟨RX11, TX11, tyX11, ci_X11, by decide, rfl, w538⟩
theorem lX11_58 : Fk RX11 58 11 18 10 4 46 := ⟨RX11, TX11, tyX11, ci_X11, by decide, rfl, w539⟩
theorem lX11_65 : Fk RX11 65 11 18 11 4 50 := ⟨RX11, TX11, tyX11, ci_X11, by decide, rfl, w540⟩
theorem lX11_72 : Fk RX11 72 11 18 12 4 54 := ⟨RX11, TX11, tyX11, ci_X11, by decide, rfl, w541⟩
theorem lX11_79 : Fk RX11 79 11 18 13 4 79 := ⟨RX11, TX11, tyX11, ci_X11, by decide, rfl, w542⟩
theorem lX11_86 : Fk RX11 86 11 18 14 4 81 := ⟨RX11, TX11, tyX11, ci_X11, by decide, rfl, w543⟩
theorem lX11_9 : Fk RX11 9 11 18 0 4 1 := ⟨RX11, TX11, tyX11, ci_X11, by decide, rfl, w529⟩
theorem lX11_93 : Fk RX11 93 11 18 15 4 87 := ⟨RX11, TX11, tyX11, ci_X11, by decide, rfl, w544⟩
theorem lX12_101 : Fk RX12 101 12 87 71 4 28 := ⟨RX12, TX12, tyX12, ci_X12, by decide, rfl, w1386⟩
theorem lX12_105 : Fk RX12 105 12 87 73 4 29 := ⟨RX12, TX12, tyX12, ci_X12, by decide, rfl, w1388⟩
theorem lX12_108 : Fk RX12 108 12 87 74 4 30 := ⟨RX12, TX12, tyX12, ci_X12, by decide, rfl, w1389⟩
theorem lX12_111 : Fk RX12 111 12 87 75 4 31 := ⟨RX12, TX12, tyX12, ci_X12, by decide, rfl, w1390⟩
theorem lX12_115 : Fk RX12 115 12 87 76 4 32 := ⟨RX12, TX12, tyX12, ci_X12, by decide, rfl, w1391⟩
theorem lX12_118 : Fk RX12 118 12 87 77 4 33 := ⟨RX12, TX12, tyX12, ci_X12, by decide, rfl, w1392⟩
theorem lX12_121 : Fk RX12 121 12 87 82 4 34 := ⟨RX12, TX12, tyX12, ci_X12, by decide, rfl, w1397⟩
theorem lX12_124 : Fk RX12 124 12 87 83 4 35 := ⟨RX12, TX12, tyX12, ci_X12, by decide, rfl, w1398⟩
theorem lX12_127 : Fk RX12 127 12 87 84 4 36 := ⟨RX12, TX12, tyX12, ci_X12, by decide, rfl, w1399⟩
theorem lX12_13 : Fk RX12 13 12 87 8 4 1 := ⟨RX12, TX12, tyX12, ci_X12, by decide, rfl, w1323⟩
theorem lX12_130 : Fk RX12 130 12 87 85 4 37 := ⟨RX12, TX12, tyX12, ci_X12, by decide, rfl, w1400⟩
theorem lX12_133 : Fk RX12 133 12 87 86 4 38 := ⟨RX12, TX12, tyX12, ci_X12, by decide, rfl, w1401⟩
theorem lX12_136 : Fk RX12 136 12 87 0 0 0 := ⟨RX12, TX12, tyX12, ci_X12, by decide, rfl, w1315⟩
theorem lX12_139 : Fk RX12 139 12 87 16 0 0 := ⟨RX12, TX12, tyX12, ci_X12, by decide, rfl, w1331⟩
theorem lX12_146 : Fk RX12 146 12 87 20 0 0 := ⟨RX12, TX12, tyX12, ci_X12, by decide, rfl, w1335⟩
theorem lX12_149 : Fk RX12 149 12 87 21 0 0 := ⟨RX12, TX12, tyX12, ci_X12, by decide, rfl, w1336⟩
theorem lX12_156 : Fk RX12 156 12 87 23 0 0 := ⟨RX12, TX12, tyX12, ci_X12, by decide, rfl, w1338⟩
theorem lX12_159 : Fk RX12 159 12 87 26 2 0 := ⟨RX12, TX12, tyX12, ci_X12, by decide, rfl, w1341⟩
theorem lX12_163 : Fk RX12 163 12 87 25 0 0 := ⟨RX12, TX12, tyX12, ci_X12, by decide, rfl, w1340⟩
theorem lX12_166 : Fk RX12 166 12 87 22 0 0 := ⟨RX12, TX12, tyX12, ci_X12, by decide, rfl, w1337⟩
theorem lX12_17 : Fk RX12 17 12 87 9 4 2 := ⟨RX12, TX12, tyX12, ci_X12, by decide, rfl, w1324⟩
theorem lX12_176 : Fk RX12 176 12 87 24 0 0 := ⟨RX12, TX12, tyX12, ci_X12, by decide, rfl, w1339⟩
theorem lX12_187 : Fk RX12 187 12 87 17 0 0 := ⟨RX12, TX12, tyX12, ci_X12, by decide, rfl, w1332⟩
theorem lX12_20 : Fk RX12 20 12 87 10 4 3 := ⟨RX12, TX12, tyX12, ci_X12, by decide, rfl, w1325⟩
theorem lX12_200 : Fk RX12 200 12 87 27 0 0 := ⟨RX12, TX12, tyX12, ci_X12, by decide, rfl, w1342⟩
theorem lX12_203 : Fk RX12 203 12 87 28 0 0 := ⟨RX12, TX12, tyX12, ci_X12, by decide, rfl, w1343⟩
theorem lX12_216 : Fk RX12 216 12 87 29 0 0 := ⟨RX12, TX12, tyX12, ci_X12, by decide, rfl, w1344⟩
theorem lX12_219 : Fk RX12 219 12 87 30 0 0 := ⟨RX12, TX12, tyX12, ci_X12, by decide, rfl, w1345⟩
theorem lX12_222 : Fk RX12 222 12 87 34 0 0 := ⟨RX12, TX12, tyX12, ci_X12, by decide, rfl, w1349⟩
theorem lX12_228 : Fk RX12 228 12 87 35 1 0 := ⟨RX12, TX12, tyX12, ci_X12, by decide, rfl, w1350⟩
theorem lX12_23 : Fk RX12 23 12 87 11 4 4 := ⟨RX12, TX12, tyX12, ci_X12, by decide, rfl, w1326⟩
theorem lX12_235 : Fk RX12 235 12 87 36 1 0 := ⟨RX12, TX12, tyX12, ci_X12, by decide, rfl, w1351⟩
theorem lX12_238 : Fk RX12 238 12 87 31 0 0 := ⟨RX12, TX12, tyX12, ci_X12, by decide, rfl, w1346⟩
theorem lX12_241 : Fk RX12 241 12 87 32 0 0 := ⟨RX12, TX12, tyX12, ci_X12, by decide, rfl, w1347⟩
theorem lX12_244 : Fk RX12 244 12 87 33 0 0 := ⟨RX12, TX12, tyX12, ci_X12, by decide, rfl, w1348⟩
theorem lX12_26 : Fk RX12 26 12 87 12 4 5 := ⟨RX12, TX12, tyX12, ci_X12, by decide, rfl, w1327⟩
theorem lX12_267 : Fk RX12 267 12 87 1 0 0 := ⟨RX12, TX12, tyX12, ci_X12, by decide, rfl, w1316⟩
theorem lX12_270 : Fk RX12 270 12 87 2 0 0 := ⟨RX12, TX12, tyX12, ci_X12, by decide, rfl, w1317⟩
theorem lX12_273 : Fk RX12 273 12 87 3 0 0 := ⟨RX12, TX12, tyX12, ci_X12, by decide, rfl, w1318⟩
theorem lX12_276 : Fk RX12 276 12 87 4 0 0 := ⟨RX12, TX12, tyX12, ci_X12, by decide, rfl, w1319⟩
theorem lX12_279 : Fk RX12 279 12 87 6 0 0 := ⟨RX12, TX12, tyX12, ci_X12, by decide, rfl, w1321⟩
theorem lX12_282 : Fk RX12 282 12 87 7 0 0 := ⟨RX12, TX12, tyX12, ci_X12, by decide, rfl, w1322⟩
theorem lX12_289 : Fk RX12 289 12 87 50 0 0 := ⟨RX12, TX12, tyX12, ci_X12, by decide, rfl, w1365⟩
theorem lX12_29 : Fk RX12 29 12 87 13 4 6 := ⟨RX12, TX12, tyX12, ci_X12, by decide, rfl, w1328⟩
theorem lX12_292 : Fk RX12 292 12 87 68 0 0 := ⟨RX12, TX12, tyX12, ci_X12, by decide, rfl, w1383⟩
theorem lX12_295 : Fk RX12 295 12 87 66 0 0 := ⟨RX12, TX12, tyX12, ci_X12, by decide, rfl, w1381⟩
theorem lX12_298 : Fk RX12 298 12 87 78 1 0 := ⟨RX12, TX12, tyX12, ci_X12, by decide, rfl, w1393⟩
theorem lX12_309 : Fk RX12 309 12 87 45 0 0 := ⟨RX12, TX12, tyX12, ci_X12, by decide, rfl, w1360⟩
theorem lX12_312 : Fk RX12 312 12 87 48 0 0 := ⟨RX12, TX12, tyX12, ci_X12, by decide, rfl, w1363⟩
theorem lX12_315 : Fk RX12 315 12 87 49 0 0 := ⟨RX12, TX12, tyX12, ci_X12, by decide, rfl, w1364⟩
theorem lX12_32 : Fk RX12 32 12 87 14 4 7 := ⟨RX12, TX12, tyX12, ci_X12, by decide, rfl, w1329⟩
theorem lX12_322 : Fk RX12 322 12 87 46 0 0 := ⟨RX12, TX12, tyX12, ci_X12, by decide, rfl, w1361⟩
theorem lX12_35 : Fk RX12 35 12 87 15 4 8 := ⟨RX12, TX12, tyX12, ci_X12, by decide, rfl, w1330⟩
theorem lX12_353 : Fk RX12 353 12 87 53 0 0 := ⟨RX12, TX12, tyX12, ci_X12, by decide, rfl, w1368⟩
theorem lX12_362 : Fk RX12 362 12 87 57 0 0 := ⟨RX12, TX12, tyX12, ci_X12, by decide, rfl, w1372⟩
theorem lX12_368 : Fk RX12 368 12 87 58 0 0 := ⟨RX12, TX12, tyX12, ci_X12, by decide, rfl, w1373⟩
theorem lX12_38 : Fk RX12 38 12 87 18 0 0 := ⟨RX12, TX12, tyX12, ci_X12, by decide, rfl, w1333⟩
theorem lX12_381 : Fk RX12 381 12 87 59 0 0 := ⟨RX12, TX12, tyX12, ci_X12, by decide, rfl, w1374⟩
theorem lX12_384 : Fk RX12 384 12 87 60 0 0 := ⟨RX12, TX12, tyX12, ci_X12, by decide, rfl, w1375⟩
theorem lX12_387 : Fk RX12 387 12 87 61 0 0 := ⟨RX12, TX12, tyX12, ci_X12, by decide, rfl, w1376⟩
theorem lX12_390 : Fk RX12 390 12 87 63 0 0 := ⟨RX12, TX12, tyX12, ci_X12, by decide, rfl, w1378⟩
theorem lX12_402 : Fk RX12 402 12 87 62 0 0 := ⟨RX12, TX12, tyX12, ci_X12, by decide, rfl, w1377⟩
theorem lX12_41 : Fk RX12 41 12 87 19 4 9 := ⟨RX12, TX12, tyX12, ci_X12, by decide, rfl, w1334⟩
theorem lX12_427 : Fk RX12 427 12 87 72 0 0 := ⟨RX12, TX12, tyX12, ci_X12, by decide, rfl, w1387⟩
theorem lX12_44 : Fk RX12 44 12 87 37 4 10 := ⟨RX12, TX12, tyX12, ci_X12, by decide, rfl, w1352⟩
theorem lX12_458 : Fk RX12 458 12 87 79 0 0 := ⟨RX12, TX12, tyX12, ci_X12, by decide, rfl, w1394⟩
theorem lX12_461 : Fk RX12 461 12 87 80 0 0 := ⟨RX12, TX12, tyX12, ci_X12, by decide, rfl, w1395⟩
theorem lX12_464 : Fk RX12 464 12 87 81 0 0 := ⟨RX12, TX12, tyX12, ci_X12, by decide, rfl, w1396⟩
theorem lX12_47 : Fk RX12 47 12 87 38 4 11 := ⟨RX12, TX12, tyX12, ci_X12, by decide, rfl, w1353⟩
theorem lX12_50 : Fk RX12 50 12 87 39 4 12 := ⟨RX12, TX12, tyX12, ci_X12, by decide, rfl, w1354⟩
theorem lX12_53 : Fk RX12 53 12 87 40 4 13 := ⟨RX12, TX12, tyX12, ci_X12, by decide, rfl, w1355⟩
theorem lX12_56 : Fk RX12 56 12 87 41 4 14 := ⟨RX12, TX12, tyX12, ci_X12, by decide, rfl, w1356⟩
theorem lX12_59 : Fk RX12 59 12 87 42 4 15 := ⟨RX12, TX12, tyX12, ci_X12, by decide, rfl, w1357⟩
theorem lX12_62 : Fk RX12 62 12 87 43 4 16 := ⟨RX12, TX12, tyX12, ci_X12, by decide, rfl, w1358⟩
theorem lX12_65 : Fk RX12 65 12 87 44 4 17 := ⟨RX12, TX12, tyX12, ci_X12, by decide, rfl, w1359⟩
theorem lX12_68 : Fk RX12 68 12 87 47 0 0 := ⟨RX12, TX12, tyX12, ci_X12, by decide, rfl, w1362⟩
theorem lX12_7 : Fk RX12 7 12 87 5 0 0 := ⟨RX12, TX12, tyX12, ci_X12, by decide, rfl, w1320⟩
theorem lX12_71 : Fk RX12 71 12 87 51 4 18 := ⟨RX12, TX12, tyX12, ci_X12, by decide, rfl, w1366⟩
theorem lX12_74 : Fk RX12 74 12 87 52 4 19 := ⟨RX12, TX12, tyX12, ci_X12, by decide, rfl, w1367⟩
theorem lX12_77 : Fk RX12 77 12 87 54 4 20 := ⟨RX12, TX12, tyX12, ci_X12, by decide, rfl, w1369⟩
theorem lX12_80 : Fk RX12 80 12 87 55 4 21 := ⟨RX12, TX12, tyX12, ci_X12, by decide, rfl, w1370⟩
theorem lX12_83 : Fk RX12 83 12 87 56 4 22 := ⟨RX12, TX12, tyX12, ci_X12, by decide, rfl, w1371⟩
theorem lX12_86 : Fk RX12 86 12 87 64 4 23 := ⟨RX12, TX12, tyX12, ci_X12, by decide, rfl, w1379⟩
theorem lX12_89 : Fk RX12 89 12 87 65 4 24 := ⟨RX12, TX12, tyX12, ci_X12, by decide, rfl, w1380⟩
theorem lX12_92 : Fk RX12 92 12 87 67 4 25 := ⟨RX12, TX12, tyX12, ci_X12, by decide, rfl, w1382⟩
theorem lX12_95 : Fk RX12 95 12 87 69 4 26 := ⟨RX12, TX12, tyX12, ci_X12, by decide, rfl, w1384⟩
theorem lX12_98 : Fk RX12 98 12 87 70 4 27 := ⟨RX12, TX12, tyX12, ci_X12, by decide, rfl, w1385⟩
theorem kX0_15 : LkV RX0 15 mX0_listen 5 := ⟨⟨w1124, w9, (by unfold yw; rw [if_pos rfl]; exact w1127), ⟨by decide, by decide, by decide +kernel⟩, by decide⟩, w1126, v39⟩
theorem kX0_19 : LkS RX0 19 mX0_isClash 2 := ⟨⟨w1132, w9, (by unfold yw; rw [if_pos rfl]; exact w1134), ⟨by decide, by decide, by decide +kernel⟩, by decide⟩, w1133⟩
theorem kX0_29 : LkV RX0 29 mX0_clashes 4 := ⟨⟨w1140, w9, (by unfold yw; rw [if_pos rfl]; exact w1123), ⟨by decide, by decide, by decide +kernel⟩, by decide⟩, w1121, w1122⟩
theorem kX0_33 : LkS RX0 33 mJ7_fill_53178 2 := ⟨⟨w1128, w3, (by unfold yw; rw [if_pos rfl]; exact w47), ⟨by decide, by decide, by decide +kernel⟩, by decide⟩, w46⟩
theorem kX0_47 : LkS RX0 47 mJ9_floorMod_7cf53 2 := ⟨⟨w1129, w19, (by unfold yw; rw [if_pos rfl]; exact w1131), ⟨by decide, by decide, by decide +kernel⟩, by decide⟩, w1130⟩
theorem kX0_67 : (Cond.initialized mX11_lowestBit.nm.cls ∈ GW ∧ yw mX11_lowestBit ∈ GW ∧ (mX11_lowestBit.nm.cls ≠ "java/lang/invoke/MethodHandle" ∧ mX11_lowestBit.nm.cls ≠ "java/lang/invoke/VarHandle" ∧ (parseMethodDescriptor mX11_lowestBit.nm.desc).map (fun d => d.parameters.length) = some 1) ∧ mX11_lowestBit.nL ≤ 41) ∧ Cond.static mX11_lowestBit.nm ∈ GW := ⟨⟨w1, (by unfold yw; rw [if_pos rfl]; exact w961), ⟨by decide, by decide, by decide +kernel⟩, by decide⟩, w960⟩
theorem kX1_18 : LkS RX1 18 mJ7_fill_53178 2 := ⟨⟨w1286, w3, (by unfold yw; rw [if_pos rfl]; exact w47), ⟨by decide, by decide, by decide +kernel⟩, by decide⟩, w46⟩
theorem kX1_24 : LkV RX1 24 mX4_attend 4 := ⟨⟨w1287, w7, (by unfold yw; rw [if_pos rfl]; exact w951), ⟨by decide, by decide, by decide +kernel⟩, by decide⟩, w949, w950⟩
theorem kX1_30 : LkV RX1 30 mX1_heardGaps 1 := ⟨⟨w1288, w13, (by unfold yw; rw [if_pos rfl]; exact w1291), ⟨by decide, by decide, by decide +kernel⟩, by decide⟩, w1290, v51⟩
theorem kX1_34 : LkV RX1 34 mX4_measure 1 := ⟨⟨w1292, w7, (by unfold yw; rw [if_pos rfl]; exact w958), ⟨by decide, by decide, by decide +kernel⟩, by decide⟩, w956, w957⟩
theorem kX1_38 : LkV RX1 38 mX4_hears 1 := ⟨⟨w1293, w7, (by unfold yw; rw [if_pos rfl]; exact w971), ⟨by decide, by decide, by decide +kernel⟩, by decide⟩, w969, w970⟩
theorem kX1_53 : LkV RX1 53 mX1_extend 2 := ⟨⟨w1299, w13, (by unfold yw; rw [if_pos rfl]; exact w1302), ⟨by decide, by decide, by decide +kernel⟩, by decide⟩, w1301, v52⟩
theorem kX1_57 : LkS RX1 57 mJ6_bitCount_0f7a4 1 := ⟨⟨w1303, w26, (by unfold yw; rw [if_pos rfl]; exact w964), ⟨by decide, by decide, by decide +kernel⟩, by decide⟩, w963⟩
theorem kX1_62 : LkV RX1 62 mX1_weigh 1 := ⟨⟨w1304, w13, (by unfold yw; rw [if_pos rfl]; exact w1307), ⟨by decide, by decide, by decide +kernel⟩, by decide⟩, w1306, v53⟩
theorem kX1_65 : (Cond.initialized mX11_lowestBit.nm.cls ∈ GW ∧ yw mX11_lowestBit ∈ GW ∧ (mX11_lowestBit.nm.cls ≠ "java/lang/invoke/MethodHandle" ∧ mX11_lowestBit.nm.cls ≠ "java/lang/invoke/VarHandle" ∧ (parseMethodDescriptor mX11_lowestBit.nm.desc).map (fun d => d.parameters.length) = some 1) ∧ mX11_lowestBit.nL ≤ 41) ∧ Cond.static mX11_lowestBit.nm ∈ GW := ⟨⟨w1, (by unfold yw; rw [if_pos rfl]; exact w961), ⟨by decide, by decide, by decide +kernel⟩, by decide⟩, w960⟩
theorem kX2_79 : LkS RX2 79 mJ7_fill_53178 2 := ⟨⟨w45, w3, (by unfold yw; rw [if_pos rfl]; exact w47), ⟨by decide, by decide, by decide +kernel⟩, by decide⟩, w46⟩
theorem kX3_110 : LkV RX3 110 mX3_greatestGroup 2 := ⟨⟨w1188, w10, (by unfold yw; rw [if_pos rfl]; exact w1191), ⟨by decide, by decide, by decide +kernel⟩, by decide⟩, w1190, v44⟩
theorem kX3_38 : LkV RX3 38 mX7_prepareLike 3 := ⟨⟨w1159, w6, (by unfold yw; rw [if_pos rfl]; exact w1162), ⟨by decide, by decide, by decide +kernel⟩, by decide⟩, w1160, w1161⟩
theorem kX3_42 : LkV RX3 42 mX3_searchAll 3 := ⟨⟨w1163, w10, (by unfold yw; rw [if_pos rfl]; exact w1166), ⟨by decide, by decide, by decide +kernel⟩, by decide⟩, w1165, v40⟩
theorem kX3_46 : LkV RX3 46 mX3_findNext 1 := ⟨⟨w1184, w10, (by unfold yw; rw [if_pos rfl]; exact w1187), ⟨by decide, by decide, by decide +kernel⟩, by decide⟩, w1186, v43⟩
theorem kX3_56 : LkV RX3 56 mX7_layDelays 3 := ⟨⟨w1168, w6, (by unfold yw; rw [if_pos rfl]; exact w1171), ⟨by decide, by decide, by decide +kernel⟩, by decide⟩, w1169, w1170⟩
theorem kX3_60 : LkV RX3 60 mX3_firstMiss 3 := ⟨⟨w1172, w10, (by unfold yw; rw [if_pos rfl]; exact w1175), ⟨by decide, by decide, by decide +kernel⟩, by decide⟩, w1174, v41⟩
theorem kX3_67 : LkV RX3 67 mX3_take 2 := ⟨⟨w1179, w10, (by unfold yw; rw [if_pos rfl]; exact w1182), ⟨by decide, by decide, by decide +kernel⟩, by decide⟩, w1181, v42⟩
theorem kX3_76 : LkV RX3 76 mX4_attend 4 := ⟨⟨w1176, w7, (by unfold yw; rw [if_pos rfl]; exact w951), ⟨by decide, by decide, by decide +kernel⟩, by decide⟩, w949, w950⟩
theorem kX3_82 : LkV RX3 82 mX4_measure 1 := ⟨⟨w1177, w7, (by unfold yw; rw [if_pos rfl]; exact w958), ⟨by decide, by decide, by decide +kernel⟩, by decide⟩, w956, w957⟩
theorem kX3_86 : LkV RX3 86 mX4_hears 1 := ⟨⟨w1178, w7, (by unfold yw; rw [if_pos rfl]; exact w971), ⟨by decide, by decide, by decide +kernel⟩, by decide⟩, w969, w970⟩
theorem kX3_93 : LkS RX3 93 mJ6_bitCount_0f7a4 1 := ⟨⟨w1183, w26, (by unfold yw; rw [if_pos rfl]; exact w964), ⟨by decide, by decide, by decide +kernel⟩, by decide⟩, w963⟩
theorem kX4_50 : (Cond.initialized mX11_lowestBit.nm.cls ∈ GW ∧ yw mX11_lowestBit ∈ GW ∧ (mX11_lowestBit.nm.cls ≠ "java/lang/invoke/MethodHandle" ∧ mX11_lowestBit.nm.cls ≠ "java/lang/invoke/VarHandle" ∧ (parseMethodDescriptor mX11_lowestBit.nm.desc).map (fun d => d.parameters.length) = some 1) ∧ mX11_lowestBit.nL ≤ 41) ∧ Cond.static mX11_lowestBit.nm ∈ GW := ⟨⟨w1, (by unfold yw; rw [if_pos rfl]; exact w961), ⟨by decide, by decide, by decide +kernel⟩, by decide⟩, w960⟩
theorem kX5_32 : LkV RX5 32 mX5_ticksTo 4 := ⟨⟨w1243, w12, (by unfold yw; rw [if_pos rfl]; exact w1246), ⟨by decide, by decide, by decide +kernel⟩, by decide⟩, w1245, v49⟩
theorem kX5_36 : LkV RX5 36 mX5_matches 5 := ⟨⟨w1239, w12, (by unfold yw; rw [if_pos rfl]; exact w1242), ⟨by decide, by decide, by decide +kernel⟩, by decide⟩, w1241, v48⟩
theorem kX5_40 : LkV RX5 40 mX5_chartedNear 3 := ⟨⟨w1269, w12, (by unfold yw; rw [if_pos rfl]; exact w1272), ⟨by decide, by decide, by decide +kernel⟩, by decide⟩, w1271, v50⟩
theorem kX6_103 : LkV RX6 103 mX6_readSound 0 := ⟨⟨w774, w5, (by unfold yw; rw [if_pos rfl]; exact w777), ⟨by decide, by decide, by decide +kernel⟩, by decide⟩, w776, v5⟩
theorem kX6_108 : LkV RX6 108 mX6_readWall 0 := ⟨⟨w791, w5, (by unfold yw; rw [if_pos rfl]; exact w794), ⟨by decide, by decide, by decide +kernel⟩, by decide⟩, w793, v9⟩
theorem kX6_113 : LkV RX6 113 mX6_readStraight 0 := ⟨⟨w806, w5, (by unfold yw; rw [if_pos rfl]; exact w809), ⟨by decide, by decide, by decide +kernel⟩, by decide⟩, w808, v12⟩
theorem kX6_118 : LkV RX6 118 mX6_readAir 0 := ⟨⟨w811, w5, (by unfold yw; rw [if_pos rfl]; exact w814), ⟨by decide, by decide, by decide +kernel⟩, by decide⟩, w813, v13⟩
theorem kX6_123 : LkV RX6 123 mX6_readMask 0 := ⟨⟨w816, w5, (by unfold yw; rw [if_pos rfl]; exact w819), ⟨by decide, by decide, by decide +kernel⟩, by decide⟩, w818, v14⟩
theorem kX6_128 : LkV RX6 128 mX6_readSweet 0 := ⟨⟨w821, w5, (by unfold yw; rw [if_pos rfl]; exact w824), ⟨by decide, by decide, by decide +kernel⟩, by decide⟩, w823, v15⟩
theorem kX6_133 : LkV RX6 133 mX6_readWord 0 := ⟨⟨w830, w5, (by unfold yw; rw [if_pos rfl]; exact w833), ⟨by decide, by decide, by decide +kernel⟩, by decide⟩, w832, v17⟩
theorem kX6_138 : LkV RX6 138 mX6_readForm 0 := ⟨⟨w835, w5, (by unfold yw; rw [if_pos rfl]; exact w838), ⟨by decide, by decide, by decide +kernel⟩, by decide⟩, w837, v18⟩
theorem kX6_148 : LkV RX6 148 mX6_readEnd 0 := ⟨⟨w786, w5, (by unfold yw; rw [if_pos rfl]; exact w789), ⟨by decide, by decide, by decide +kernel⟩, by decide⟩, w788, v8⟩
theorem kX6_167 : LkV RX6 167 mX6_readSwallows 1 := ⟨⟨w796, w5, (by unfold yw; rw [if_pos rfl]; exact w799), ⟨by decide, by decide, by decide +kernel⟩, by decide⟩, w798, v10⟩
theorem kX6_171 : LkV RX6 171 mX6_readAgain 1 := ⟨⟨w801, w5, (by unfold yw; rw [if_pos rfl]; exact w804), ⟨by decide, by decide, by decide +kernel⟩, by decide⟩, w803, v11⟩
theorem kX6_187 : LkV RX6 187 mX6_isToldSound 0 := ⟨⟨w825, w5, (by unfold yw; rw [if_pos rfl]; exact w828), ⟨by decide, by decide, by decide +kernel⟩, by decide⟩, w827, v16⟩
theorem kX6_29 : LkV RX6 29 mX2_clear 0 := ⟨⟨w706, w2, (by unfold yw; rw [if_pos rfl]; exact w44), ⟨by decide, by decide, by decide +kernel⟩, by decide⟩, w42, w43⟩
theorem kX6_53 : LkV RX6 53 mX6_step 0 := ⟨⟨w707, w5, (by unfold yw; rw [if_pos rfl]; exact w710), ⟨by decide, by decide, by decide +kernel⟩, by decide⟩, w709, v2⟩
theorem kX6_59 : LkV RX6 59 mX6_readLine 0 := ⟨⟨w717, w5, (by unfold yw; rw [if_pos rfl]; exact w720), ⟨by decide, by decide, by decide +kernel⟩, by decide⟩, w719, v3⟩
theorem kX6_69 : LkS RX6 69 mX6_isLetter 1 := ⟨⟨w711, w5, (by unfold yw; rw [if_pos rfl]; exact w713), ⟨by decide, by decide, by decide +kernel⟩, by decide⟩, w712⟩
theorem kX6_73 : LkS RX6 73 mX6_isDigit 1 := ⟨⟨w714, w5, (by unfold yw; rw [if_pos rfl]; exact w716), ⟨by decide, by decide, by decide +kernel⟩, by decide⟩, w715⟩
theorem kX6_76 : LkV RX6 76 mJ0_length_8abf5 0 := ⟨⟨w726, w20, (by unfold yw; rw [if_pos rfl]; exact w729), ⟨by decide, by decide, by decide +kernel⟩, by decide⟩, w727, w728⟩
theorem kX6_82 : LkV RX6 82 mJ0_charAt_5068e 1 := ⟨⟨w736, w20, (by unfold yw; rw [if_pos rfl]; exact w739), ⟨by decide, by decide, by decide +kernel⟩, by decide⟩, w737, w738⟩
theorem kX6_86 : LkV RX6 86 mX6_fail 1 := ⟨⟨w778, w5, (by unfold yw; rw [if_pos rfl]; exact w781), ⟨by decide, by decide, by decide +kernel⟩, by decide⟩, w780, v6⟩
theorem kX6_90 : LkV RX6 90 mX6_isNumber 2 := ⟨⟨w782, w5, (by unfold yw; rw [if_pos rfl]; exact w785), ⟨by decide, by decide, by decide +kernel⟩, by decide⟩, w784, v7⟩
theorem kX6_99 : LkV RX6 99 mX6_spells 1 := ⟨⟨w722, w5, (by unfold yw; rw [if_pos rfl]; exact w725), ⟨by decide, by decide, by decide +kernel⟩, by decide⟩, w724, v4⟩
theorem kX7_46 : LkV RX7 46 mX7_place 1 := ⟨⟨w931, w6, (by unfold yw; rw [if_pos rfl]; exact w934), ⟨by decide, by decide, by decide +kernel⟩, by decide⟩, w933, v25⟩
theorem kX7_63 : LkV RX7 63 mX7_addWall 2 := ⟨⟨w936, w6, (by unfold yw; rw [if_pos rfl]; exact w939), ⟨by decide, by decide, by decide +kernel⟩, by decide⟩, w938, v26⟩
theorem kX7_67 : LkV RX7 67 mX2_foggedShare 2 := ⟨⟨w940, w2, (by unfold yw; rw [if_pos rfl]; exact w943), ⟨by decide, by decide, by decide +kernel⟩, by decide⟩, w941, w942⟩
theorem kX7_77 : LkV RX7 77 mX2_swallowsSound 2 := ⟨⟨w944, w2, (by unfold yw; rw [if_pos rfl]; exact w947), ⟨by decide, by decide, by decide +kernel⟩, by decide⟩, w945, w946⟩
theorem kX8_30 : LkV RX8 30 mX8_clearSaid 0 := ⟨⟨w186, w4, (by unfold yw; rw [if_pos rfl]; exact w189), ⟨by decide, by decide, by decide +kernel⟩, by decide⟩, w187, w188⟩
theorem kX8_33 : LkV RX8 33 mX8_clearTold 0 := ⟨⟨w191, w4, (by unfold yw; rw [if_pos rfl]; exact w194), ⟨by decide, by decide, by decide +kernel⟩, by decide⟩, w192, w193⟩
theorem kX8_36 : LkS RX8 36 mJ7_fill_53178 2 := ⟨⟨w190, w3, (by unfold yw; rw [if_pos rfl]; exact w47), ⟨by decide, by decide, by decide +kernel⟩, by decide⟩, w46⟩
theorem kX9_41 : LkS RX9 41 mJ7_fill_53178 2 := ⟨⟨w1203, w3, (by unfold yw; rw [if_pos rfl]; exact w47), ⟨by decide, by decide, by decide +kernel⟩, by decide⟩, w46⟩
theorem kX9_56 : LkV RX9 56 mX9_isHeardAsTold 3 := ⟨⟨w1204, w11, (by unfold yw; rw [if_pos rfl]; exact w1207), ⟨by decide, by decide, by decide +kernel⟩, by decide⟩, w1206, v45⟩
theorem kX9_60 : LkV RX9 60 mX9_search 3 := ⟨⟨w1211, w11, (by unfold yw; rw [if_pos rfl]; exact w1214), ⟨by decide, by decide, by decide +kernel⟩, by decide⟩, w1213, v46⟩
theorem kX9_64 : LkV RX9 64 mX9_take 1 := ⟨⟨w1215, w11, (by unfold yw; rw [if_pos rfl]; exact w1218), ⟨by decide, by decide, by decide +kernel⟩, by decide⟩, w1217, v47⟩
theorem kX9_74 : LkV RX9 74 mX4_attend 4 := ⟨⟨w1208, w7, (by unfold yw; rw [if_pos rfl]; exact w951), ⟨by decide, by decide, by decide +kernel⟩, by decide⟩, w949, w950⟩
theorem kX9_80 : LkV RX9 80 mX4_measure 1 := ⟨⟨w1209, w7, (by unfold yw; rw [if_pos rfl]; exact w958), ⟨by decide, by decide, by decide +kernel⟩, by decide⟩, w956, w957⟩
theorem kX9_83 : LkV RX9 83 mX4_hears 1 := ⟨⟨w1210, w7, (by unfold yw; rw [if_pos rfl]; exact w971), ⟨by decide, by decide, by decide +kernel⟩, by decide⟩, w969, w970⟩
theorem kX9_87 : LkS RX9 87 mJ6_bitCount_0f7a4 1 := ⟨⟨w1219, w26, (by unfold yw; rw [if_pos rfl]; exact w964), ⟨by decide, by decide, by decide +kernel⟩, by decide⟩, w963⟩
theorem kX10_101 : LkV RX10 101 mX4_attend 4 := ⟨⟨w1009, w7, (by unfold yw; rw [if_pos rfl]; exact w951), ⟨by decide, by decide, by decide +kernel⟩, by decide⟩, w949, w950⟩
theorem kX10_107 : LkV RX10 107 mX7_longest 0 := ⟨⟨w1010, w6, (by unfold yw; rw [if_pos rfl]; exact w1013), ⟨by decide, by decide, by decide +kernel⟩, by decide⟩, w1011, w1012⟩
theorem kX10_112 : LkV RX10 112 mX4_measure 1 := ⟨⟨w1014, w7, (by unfold yw; rw [if_pos rfl]; exact w958), ⟨by decide, by decide, by decide +kernel⟩, by decide⟩, w956, w957⟩
theorem kX10_115 : LkV RX10 115 mX4_hears 1 := ⟨⟨w1015, w7, (by unfold yw; rw [if_pos rfl]; exact w971), ⟨by decide, by decide, by decide +kernel⟩, by decide⟩, w969, w970⟩
theorem kX10_119 : LkV RX10 119 mX10_fittingPlaces 1 := ⟨⟨w1032, w8, (by unfold yw; rw [if_pos rfl]; exact w1035), ⟨by decide, by decide, by decide +kernel⟩, by decide⟩, w1034, v34⟩
theorem kX10_122 : LkV RX10 122 mX10_layKind 2 := ⟨⟨w1036, w8, (by unfold yw; rw [if_pos rfl]; exact w1039), ⟨by decide, by decide, by decide +kernel⟩, by decide⟩, w1038, v35⟩
theorem kX10_125 : LkV RX10 125 mX10_fitsAt 2 := ⟨⟨w1024, w8, (by unfold yw; rw [if_pos rfl]; exact w1027), ⟨by decide, by decide, by decide +kernel⟩, by decide⟩, w1026, v32⟩
theorem kX10_132 : LkV RX10 132 mX7_build 5 := ⟨⟨w995, w6, (by unfold yw; rw [if_pos rfl]; exact w930), ⟨by decide, by decide, by decide +kernel⟩, by decide⟩, w928, w929⟩
theorem kX10_136 : LkV RX10 136 mX10_surveyForm 5 := ⟨⟨w996, w8, (by unfold yw; rw [if_pos rfl]; exact w999), ⟨by decide, by decide, by decide +kernel⟩, by decide⟩, w998, v27⟩
theorem kX10_140 : LkV RX10 140 mX10_spell 2 := ⟨⟨w1001, w8, (by unfold yw; rw [if_pos rfl]; exact w1004), ⟨by decide, by decide, by decide +kernel⟩, by decide⟩, w1003, v28⟩
theorem kX10_144 : LkV RX10 144 mX10_listen 2 := ⟨⟨w1005, w8, (by unfold yw; rw [if_pos rfl]; exact w1008), ⟨by decide, by decide, by decide +kernel⟩, by decide⟩, w1007, v29⟩
theorem kX10_148 : LkV RX10 148 mX10_weigh 3 := ⟨⟨w1016, w8, (by unfold yw; rw [if_pos rfl]; exact w1019), ⟨by decide, by decide, by decide +kernel⟩, by decide⟩, w1018, v30⟩
theorem kX10_152 : LkV RX10 152 mX10_isEchoed 1 := ⟨⟨w1020, w8, (by unfold yw; rw [if_pos rfl]; exact w1023), ⟨by decide, by decide, by decide +kernel⟩, by decide⟩, w1022, v31⟩
theorem kX10_156 : LkV RX10 156 mX10_isLine 0 := ⟨⟨w1028, w8, (by unfold yw; rw [if_pos rfl]; exact w1031), ⟨by decide, by decide, by decide +kernel⟩, by decide⟩, w1030, v33⟩
theorem kX10_160 : LkV RX10 160 mX10_answersNow 2 := ⟨⟨w1055, w8, (by unfold yw; rw [if_pos rfl]; exact w1058), ⟨by decide, by decide, by decide +kernel⟩, by decide⟩, w1057, v36⟩
theorem kX10_163 : LkV RX10 163 mX10_searchFog 3 := ⟨⟨w1092, w8, (by unfold yw; rw [if_pos rfl]; exact w1095), ⟨by decide, by decide, by decide +kernel⟩, by decide⟩, w1094, v37⟩
theorem kX10_167 : LkV RX10 167 mX10_changesShares 1 := ⟨⟨w1096, w8, (by unfold yw; rw [if_pos rfl]; exact w1099), ⟨by decide, by decide, by decide +kernel⟩, by decide⟩, w1098, v38⟩
theorem kX10_173 : LkV RX10 173 mX7_canReach 1 := ⟨⟨w1101, w6, (by unfold yw; rw [if_pos rfl]; exact w1104), ⟨by decide, by decide, by decide +kernel⟩, by decide⟩, w1102, w1103⟩
theorem kX10_176 : LkV RX10 176 mX10_countStill 4 := ⟨⟨w1105, w8, (by unfold yw; rw [if_pos rfl]; exact w1073), ⟨by decide, by decide, by decide +kernel⟩, by decide⟩, w1071, w1072⟩
theorem kX10_183 : LkV RX10 183 mX2_foggedShare 2 := ⟨⟨w1100, w2, (by unfold yw; rw [if_pos rfl]; exact w943), ⟨by decide, by decide, by decide +kernel⟩, by decide⟩, w941, w942⟩
theorem kX10_46 : LkS RX10 46 mJ7_fill_53178 2 := ⟨⟨w362, w3, (by unfold yw; rw [if_pos rfl]; exact w47), ⟨by decide, by decide, by decide +kernel⟩, by decide⟩, w46⟩
theorem kX10_71 : LkV RX10 71 mX10_measureForm 1 := ⟨⟨w848, w8, (by unfold yw; rw [if_pos rfl]; exact w851), ⟨by decide, by decide, by decide +kernel⟩, by decide⟩, w850, v19⟩
theorem kX11_111 : LkV RX11 111 mX11_tapeNumber 1 := ⟨⟨w588, w1, (by unfold yw; rw [if_pos rfl]; exact w591), ⟨by decide, by decide, by decide +kernel⟩, by decide⟩, w590, v0⟩
theorem kX11_118 : LkV RX11 118 mX6_read 3 := ⟨⟨w699, w5, (by unfold yw; rw [if_pos rfl]; exact w702), ⟨by decide, by decide, by decide +kernel⟩, by decide⟩, w700, w701⟩
theorem kX11_123 : LkV RX11 123 mX8_clear 0 := ⟨⟨w839, w4, (by unfold yw; rw [if_pos rfl]; exact w185), ⟨by decide, by decide, by decide +kernel⟩, by decide⟩, w183, w184⟩
theorem kX11_126 : LkV RX11 126 mX7_forget 0 := ⟨⟨w840, w6, (by unfold yw; rw [if_pos rfl]; exact w843), ⟨by decide, by decide, by decide +kernel⟩, by decide⟩, w841, w842⟩
theorem kX11_129 : LkV RX11 129 mX10_adopt 1 := ⟨⟨w844, w8, (by unfold yw; rw [if_pos rfl]; exact w847), ⟨by decide, by decide, by decide +kernel⟩, by decide⟩, w845, w846⟩
theorem kX11_133 : LkV RX11 133 mX3_forget 0 := ⟨⟨w601, w10, (by unfold yw; rw [if_pos rfl]; exact w604), ⟨by decide, by decide, by decide +kernel⟩, by decide⟩, w602, w603⟩
theorem kX11_134 : LkV RX11 134 mX9_forget 0 := ⟨⟨w610, w11, (by unfold yw; rw [if_pos rfl]; exact w613), ⟨by decide, by decide, by decide +kernel⟩, by decide⟩, w611, w612⟩
theorem kX11_159 : LkV RX11 159 mX11_needWall 1 := ⟨⟨w882, w1, (by unfold yw; rw [if_pos rfl]; exact w885), ⟨by decide, by decide, by decide +kernel⟩, by decide⟩, w884, v20⟩
theorem kX11_183 : LkV RX11 183 mX11_needSound 1 := ⟨⟨w900, w1, (by unfold yw; rw [if_pos rfl]; exact w903), ⟨by decide, by decide, by decide +kernel⟩, by decide⟩, w902, v21⟩
theorem kX11_186 : LkV RX11 186 mX8_addSaid 2 := ⟨⟨w904, w4, (by unfold yw; rw [if_pos rfl]; exact w907), ⟨by decide, by decide, by decide +kernel⟩, by decide⟩, w905, w906⟩
theorem kX11_190 : LkV RX11 190 mX8_clearSaid 0 := ⟨⟨w600, w4, (by unfold yw; rw [if_pos rfl]; exact w189), ⟨by decide, by decide, by decide +kernel⟩, by decide⟩, w187, w188⟩
theorem kX11_193 : LkV RX11 193 mX11_needMoment 3 := ⟨⟨w915, w1, (by unfold yw; rw [if_pos rfl]; exact w918), ⟨by decide, by decide, by decide +kernel⟩, by decide⟩, w917, v22⟩
theorem kX11_200 : LkV RX11 200 mX7_build 5 := ⟨⟨w927, w6, (by unfold yw; rw [if_pos rfl]; exact w930), ⟨by decide, by decide, by decide +kernel⟩, by decide⟩, w928, w929⟩
theorem kX11_207 : LkV RX11 207 mX4_attend 4 := ⟨⟨w948, w7, (by unfold yw; rw [if_pos rfl]; exact w951), ⟨by decide, by decide, by decide +kernel⟩, by decide⟩, w949, w950⟩
theorem kX11_220 : LkV RX11 220 mX4_measure 1 := ⟨⟨w955, w7, (by unfold yw; rw [if_pos rfl]; exact w958), ⟨by decide, by decide, by decide +kernel⟩, by decide⟩, w956, w957⟩
theorem kX11_223 : LkV RX11 223 mX4_hears 1 := ⟨⟨w968, w7, (by unfold yw; rw [if_pos rfl]; exact w971), ⟨by decide, by decide, by decide +kernel⟩, by decide⟩, w969, w970⟩
theorem kX11_227 : LkV RX11 227 mX4_loudness 2 := ⟨⟨w980, w7, (by unfold yw; rw [if_pos rfl]; exact w983), ⟨by decide, by decide, by decide +kernel⟩, by decide⟩, w981, w982⟩
theorem kX11_230 : LkV RX11 230 mX11_needHour 1 := ⟨⟨w923, w1, (by unfold yw; rw [if_pos rfl]; exact w926), ⟨by decide, by decide, by decide +kernel⟩, by decide⟩, w925, v24⟩
theorem kX11_236 : LkV RX11 236 mX10_survey 3 := ⟨⟨w991, w8, (by unfold yw; rw [if_pos rfl]; exact w994), ⟨by decide, by decide, by decide +kernel⟩, by decide⟩, w992, w993⟩
theorem kX11_240 : LkV RX11 240 mX10_figure 2 := ⟨⟨w1040, w8, (by unfold yw; rw [if_pos rfl]; exact w1043), ⟨by decide, by decide, by decide +kernel⟩, by decide⟩, w1041, w1042⟩
theorem kX11_243 : LkV RX11 243 mX10_answering 2 := ⟨⟨w1051, w8, (by unfold yw; rw [if_pos rfl]; exact w1054), ⟨by decide, by decide, by decide +kernel⟩, by decide⟩, w1052, w1053⟩
theorem kX11_246 : LkV RX11 246 mX10_partOf 2 := ⟨⟨w1059, w8, (by unfold yw; rw [if_pos rfl]; exact w1062), ⟨by decide, by decide, by decide +kernel⟩, by decide⟩, w1060, w1061⟩
theorem kX11_249 : LkV RX11 249 mX10_countStill 4 := ⟨⟨w1070, w8, (by unfold yw; rw [if_pos rfl]; exact w1073), ⟨by decide, by decide, by decide +kernel⟩, by decide⟩, w1071, w1072⟩
theorem kX11_253 : LkV RX11 253 mX10_thickestFog 3 := ⟨⟨w1088, w8, (by unfold yw; rw [if_pos rfl]; exact w1091), ⟨by decide, by decide, by decide +kernel⟩, by decide⟩, w1089, w1090⟩
theorem kX11_262 : LkV RX11 262 mX0_clashes 4 := ⟨⟨w1120, w9, (by unfold yw; rw [if_pos rfl]; exact w1123), ⟨by decide, by decide, by decide +kernel⟩, by decide⟩, w1121, w1122⟩
theorem kX11_266 : LkV RX11 266 mX0_rests 3 := ⟨⟨w1136, w9, (by unfold yw; rw [if_pos rfl]; exact w1139), ⟨by decide, by decide, by decide +kernel⟩, by decide⟩, w1137, w1138⟩
theorem kX11_273 : LkV RX11 273 mX8_clearTold 0 := ⟨⟨w609, w4, (by unfold yw; rw [if_pos rfl]; exact w194), ⟨by decide, by decide, by decide +kernel⟩, by decide⟩, w192, w193⟩
theorem kX11_276 : LkV RX11 276 mX3_find 4 := ⟨⟨w1155, w10, (by unfold yw; rw [if_pos rfl]; exact w1158), ⟨by decide, by decide, by decide +kernel⟩, by decide⟩, w1156, w1157⟩
theorem kX11_283 : LkV RX11 283 mX9_find 4 := ⟨⟨w1199, w11, (by unfold yw; rw [if_pos rfl]; exact w1202), ⟨by decide, by decide, by decide +kernel⟩, by decide⟩, w1200, w1201⟩
theorem kX11_287 : LkV RX11 287 mX11_needEar 1 := ⟨⟨w919, w1, (by unfold yw; rw [if_pos rfl]; exact w922), ⟨by decide, by decide, by decide +kernel⟩, by decide⟩, w921, v23⟩
theorem kX11_296 : LkV RX11 296 mX5_countMatching 3 := ⟨⟨w1235, w12, (by unfold yw; rw [if_pos rfl]; exact w1238), ⟨by decide, by decide, by decide +kernel⟩, by decide⟩, w1236, w1237⟩
theorem kX11_300 : LkV RX11 300 mX5_findMatching 4 := ⟨⟨w1250, w12, (by unfold yw; rw [if_pos rfl]; exact w1253), ⟨by decide, by decide, by decide +kernel⟩, by decide⟩, w1251, w1252⟩
theorem kX11_304 : LkV RX11 304 mX5_chart 3 := ⟨⟨w1261, w12, (by unfold yw; rw [if_pos rfl]; exact w1264), ⟨by decide, by decide, by decide +kernel⟩, by decide⟩, w1262, w1263⟩
theorem kX11_308 : LkV RX11 308 mX5_countCouples 4 := ⟨⟨w1265, w12, (by unfold yw; rw [if_pos rfl]; exact w1268), ⟨by decide, by decide, by decide +kernel⟩, by decide⟩, w1266, w1267⟩
theorem kX11_311 : LkV RX11 311 mX1_compare 4 := ⟨⟨w1282, w13, (by unfold yw; rw [if_pos rfl]; exact w1285), ⟨by decide, by decide, by decide +kernel⟩, by decide⟩, w1283, w1284⟩
theorem kX11_318 : LkV RX11 318 mX1_choose 0 := ⟨⟨w1294, w13, (by unfold yw; rw [if_pos rfl]; exact w1297), ⟨by decide, by decide, by decide +kernel⟩, by decide⟩, w1295, w1296⟩
theorem kX11_322 : LkS RX11 322 mJ6_bitCount_0f7a4 1 := ⟨⟨w962, w26, (by unfold yw; rw [if_pos rfl]; exact w964), ⟨by decide, by decide, by decide +kernel⟩, by decide⟩, w963⟩
theorem kX11_327 : LkV RX11 327 mX8_copy 1 := ⟨⟨w618, w4, (by unfold yw; rw [if_pos rfl]; exact w621), ⟨by decide, by decide, by decide +kernel⟩, by decide⟩, w619, w620⟩
theorem kL_100 : LkV RL 100 mX11_fault 0 := ⟨⟨w592, w1, (by unfold yw; rw [if_pos rfl]; exact w595), ⟨by decide, by decide, by decide +kernel⟩, by decide⟩, w593, w594⟩
theorem kL_103 : LkV RL 103 mX12_fault 0 := ⟨⟨w1671, w14, (by unfold yw; rw [if_pos rfl]; exact w1674), ⟨by decide, by decide, by decide +kernel⟩, by decide⟩, w1672, w1673⟩
theorem kL_104 : LkS RL 104 mL_count 3 := ⟨⟨w852, w0, (by unfold yw; rw [if_neg (by decide)]; exact w854), ⟨by decide, by decide, by decide +kernel⟩, by decide⟩, w853⟩
theorem kL_106 : LkV RL 106 mX12_count 1 := ⟨⟨w1675, w14, (by unfold yw; rw [if_pos rfl]; exact w1678), ⟨by decide, by decide, by decide +kernel⟩, by decide⟩, w1676, w1677⟩
theorem kL_107 : LkS RL 107 mL_wall 4 := ⟨⟨w875, w0, (by unfold yw; rw [if_neg (by decide)]; exact w877), ⟨by decide, by decide, by decide +kernel⟩, by decide⟩, w876⟩
theorem kL_110 : LkV RL 110 mX12_wall 2 := ⟨⟨w1698, w14, (by unfold yw; rw [if_pos rfl]; exact w1701), ⟨by decide, by decide, by decide +kernel⟩, by decide⟩, w1699, w1700⟩
theorem kL_111 : LkS RL 111 mL_word 4 := ⟨⟨w886, w0, (by unfold yw; rw [if_neg (by decide)]; exact w888), ⟨by decide, by decide, by decide +kernel⟩, by decide⟩, w887⟩
theorem kL_113 : LkV RL 113 mX12_word 2 := ⟨⟨w1702, w14, (by unfold yw; rw [if_pos rfl]; exact w1705), ⟨by decide, by decide, by decide +kernel⟩, by decide⟩, w1703, w1704⟩
theorem kL_114 : LkS RL 114 mL_say 4 := ⟨⟨w893, w0, (by unfold yw; rw [if_neg (by decide)]; exact w895), ⟨by decide, by decide, by decide +kernel⟩, by decide⟩, w894⟩
theorem kL_116 : LkV RL 116 mX12_say 2 := ⟨⟨w1706, w14, (by unfold yw; rw [if_pos rfl]; exact w1709), ⟨by decide, by decide, by decide +kernel⟩, by decide⟩, w1707, w1708⟩
theorem kL_117 : LkV RL 117 mX11_hush 0 := ⟨⟨w596, w1, (by unfold yw; rw [if_pos rfl]; exact w599), ⟨by decide, by decide, by decide +kernel⟩, by decide⟩, w597, w598⟩
theorem kL_120 : LkV RL 120 mX12_hush 0 := ⟨⟨w1714, w14, (by unfold yw; rw [if_pos rfl]; exact w1717), ⟨by decide, by decide, by decide +kernel⟩, by decide⟩, w1715, w1716⟩
theorem kL_121 : LkS RL 121 mL_heard 5 := ⟨⟨w908, w0, (by unfold yw; rw [if_neg (by decide)]; exact w910), ⟨by decide, by decide, by decide +kernel⟩, by decide⟩, w909⟩
theorem kL_124 : LkV RL 124 mX12_heard 3 := ⟨⟨w1718, w14, (by unfold yw; rw [if_pos rfl]; exact w1721), ⟨by decide, by decide, by decide +kernel⟩, by decide⟩, w1719, w1720⟩
theorem kL_125 : LkS RL 125 mL_loud 6 := ⟨⟨w973, w0, (by unfold yw; rw [if_neg (by decide)]; exact w975), ⟨by decide, by decide, by decide +kernel⟩, by decide⟩, w974⟩
theorem kL_128 : LkV RL 128 mX12_loud 4 := ⟨⟨w1746, w14, (by unfold yw; rw [if_pos rfl]; exact w1749), ⟨by decide, by decide, by decide +kernel⟩, by decide⟩, w1747, w1748⟩
theorem kL_129 : LkS RL 129 mL_lines 4 := ⟨⟨w984, w0, (by unfold yw; rw [if_neg (by decide)]; exact w986), ⟨by decide, by decide, by decide +kernel⟩, by decide⟩, w985⟩
theorem kL_131 : LkV RL 131 mX12_lines 2 := ⟨⟨w1750, w14, (by unfold yw; rw [if_pos rfl]; exact w1753), ⟨by decide, by decide, by decide +kernel⟩, by decide⟩, w1751, w1752⟩
theorem kL_132 : LkS RL 132 mL_line 5 := ⟨⟨w1044, w0, (by unfold yw; rw [if_neg (by decide)]; exact w1046), ⟨by decide, by decide, by decide +kernel⟩, by decide⟩, w1045⟩
theorem kL_134 : LkV RL 134 mX12_line_ 3 := ⟨⟨w1805, w14, (by unfold yw; rw [if_pos rfl]; exact w1808), ⟨by decide, by decide, by decide +kernel⟩, by decide⟩, w1806, w1807⟩
theorem kL_135 : LkS RL 135 mL_still 4 := ⟨⟨w1063, w0, (by unfold yw; rw [if_neg (by decide)]; exact w1065), ⟨by decide, by decide, by decide +kernel⟩, by decide⟩, w1064⟩
theorem kL_137 : LkV RL 137 mX12_still 2 := ⟨⟨w1809, w14, (by unfold yw; rw [if_pos rfl]; exact w1812), ⟨by decide, by decide, by decide +kernel⟩, by decide⟩, w1810, w1811⟩
theorem kL_138 : LkS RL 138 mL_without 4 := ⟨⟨w1074, w0, (by unfold yw; rw [if_neg (by decide)]; exact w1076), ⟨by decide, by decide, by decide +kernel⟩, by decide⟩, w1075⟩
theorem kL_140 : LkV RL 140 mX12_without 2 := ⟨⟨w1817, w14, (by unfold yw; rw [if_pos rfl]; exact w1820), ⟨by decide, by decide, by decide +kernel⟩, by decide⟩, w1818, w1819⟩
theorem kL_141 : LkS RL 141 mL_lasts 3 := ⟨⟨w1081, w0, (by unfold yw; rw [if_neg (by decide)]; exact w1083), ⟨by decide, by decide, by decide +kernel⟩, by decide⟩, w1082⟩
theorem kL_143 : LkV RL 143 mX12_lasts 1 := ⟨⟨w1821, w14, (by unfold yw; rw [if_pos rfl]; exact w1824), ⟨by decide, by decide, by decide +kernel⟩, by decide⟩, w1822, w1823⟩
theorem kL_144 : LkS RL 144 mL_sing 4 := ⟨⟨w1106, w0, (by unfold yw; rw [if_neg (by decide)]; exact w1108), ⟨by decide, by decide, by decide +kernel⟩, by decide⟩, w1107⟩
theorem kL_146 : LkV RL 146 mX12_sing 2 := ⟨⟨w1825, w14, (by unfold yw; rw [if_pos rfl]; exact w1828), ⟨by decide, by decide, by decide +kernel⟩, by decide⟩, w1826, w1827⟩
theorem kL_147 : LkS RL 147 mL_round 3 := ⟨⟨w1113, w0, (by unfold yw; rw [if_neg (by decide)]; exact w1115), ⟨by decide, by decide, by decide +kernel⟩, by decide⟩, w1114⟩
theorem kL_149 : LkV RL 149 mX12_round 1 := ⟨⟨w1829, w14, (by unfold yw; rw [if_pos rfl]; exact w1832), ⟨by decide, by decide, by decide +kernel⟩, by decide⟩, w1830, w1831⟩
theorem kL_15 : LkV RL 15 mX11_count 1 := ⟨⟨w856, w1, (by unfold yw; rw [if_pos rfl]; exact w859), ⟨by decide, by decide, by decide +kernel⟩, by decide⟩, w857, w858⟩
theorem kL_150 : LkS RL 150 mL_tell 3 := ⟨⟨w1141, w0, (by unfold yw; rw [if_neg (by decide)]; exact w1143), ⟨by decide, by decide, by decide +kernel⟩, by decide⟩, w1142⟩
theorem kL_152 : LkV RL 152 mX12_tell 1 := ⟨⟨w1837, w14, (by unfold yw; rw [if_pos rfl]; exact w1840), ⟨by decide, by decide, by decide +kernel⟩, by decide⟩, w1838, w1839⟩
theorem kL_153 : LkV RL 153 mX11_untell 0 := ⟨⟨w605, w1, (by unfold yw; rw [if_pos rfl]; exact w608), ⟨by decide, by decide, by decide +kernel⟩, by decide⟩, w606, w607⟩
theorem kL_156 : LkV RL 156 mX12_untell 0 := ⟨⟨w1841, w14, (by unfold yw; rw [if_pos rfl]; exact w1844), ⟨by decide, by decide, by decide +kernel⟩, by decide⟩, w1842, w1843⟩
theorem kL_157 : LkS RL 157 mL_rivals 4 := ⟨⟨w1148, w0, (by unfold yw; rw [if_neg (by decide)]; exact w1150), ⟨by decide, by decide, by decide +kernel⟩, by decide⟩, w1149⟩
theorem kL_159 : LkV RL 159 mX12_rivals 2 := ⟨⟨w1845, w14, (by unfold yw; rw [if_pos rfl]; exact w1848), ⟨by decide, by decide, by decide +kernel⟩, by decide⟩, w1846, w1847⟩
theorem kL_160 : LkS RL 160 mL_sayers 3 := ⟨⟨w1192, w0, (by unfold yw; rw [if_neg (by decide)]; exact w1194), ⟨by decide, by decide, by decide +kernel⟩, by decide⟩, w1193⟩
theorem kL_162 : LkV RL 162 mX12_sayers 1 := ⟨⟨w1874, w14, (by unfold yw; rw [if_pos rfl]; exact w1877), ⟨by decide, by decide, by decide +kernel⟩, by decide⟩, w1875, w1876⟩
theorem kL_163 : LkS RL 163 mL_stand 5 := ⟨⟨w1221, w0, (by unfold yw; rw [if_neg (by decide)]; exact w1223), ⟨by decide, by decide, by decide +kernel⟩, by decide⟩, w1222⟩
theorem kL_165 : LkV RL 165 mX12_stand 3 := ⟨⟨w1878, w14, (by unfold yw; rw [if_pos rfl]; exact w1881), ⟨by decide, by decide, by decide +kernel⟩, by decide⟩, w1879, w1880⟩
theorem kL_166 : LkS RL 166 mL_matching 5 := ⟨⟨w1228, w0, (by unfold yw; rw [if_neg (by decide)]; exact w1230), ⟨by decide, by decide, by decide +kernel⟩, by decide⟩, w1229⟩
theorem kL_168 : LkV RL 168 mX12_matching 3 := ⟨⟨w1882, w14, (by unfold yw; rw [if_pos rfl]; exact w1885), ⟨by decide, by decide, by decide +kernel⟩, by decide⟩, w1883, w1884⟩
theorem kL_169 : LkS RL 169 mL_moved 7 := ⟨⟨w1254, w0, (by unfold yw; rw [if_neg (by decide)]; exact w1256), ⟨by decide, by decide, by decide +kernel⟩, by decide⟩, w1255⟩
theorem kL_172 : LkV RL 172 mX12_moved 5 := ⟨⟨w1894, w14, (by unfold yw; rw [if_pos rfl]; exact w1897), ⟨by decide, by decide, by decide +kernel⟩, by decide⟩, w1895, w1896⟩
theorem kL_173 : LkS RL 173 mL_code 4 := ⟨⟨w1275, w0, (by unfold yw; rw [if_neg (by decide)]; exact w1277), ⟨by decide, by decide, by decide +kernel⟩, by decide⟩, w1276⟩
theorem kL_175 : LkV RL 175 mX12_code 2 := ⟨⟨w1898, w14, (by unfold yw; rw [if_pos rfl]; exact w1901), ⟨by decide, by decide, by decide +kernel⟩, by decide⟩, w1899, w1900⟩
theorem kL_176 : LkV RL 176 mX11_image 0 := ⟨⟨w614, w1, (by unfold yw; rw [if_pos rfl]; exact w617), ⟨by decide, by decide, by decide +kernel⟩, by decide⟩, w615, w616⟩
theorem kL_179 : LkV RL 179 mX12_image 0 := ⟨⟨w1907, w14, (by unfold yw; rw [if_pos rfl]; exact w1910), ⟨by decide, by decide, by decide +kernel⟩, by decide⟩, w1908, w1909⟩
theorem kL_180 : LkV RL 180 mX11_restore 0 := ⟨⟨w625, w1, (by unfold yw; rw [if_pos rfl]; exact w628), ⟨by decide, by decide, by decide +kernel⟩, by decide⟩, w626, w627⟩
theorem kL_184 : LkV RL 184 mX12_restore 0 := ⟨⟨w1911, w14, (by unfold yw; rw [if_pos rfl]; exact w1914), ⟨by decide, by decide, by decide +kernel⟩, by decide⟩, w1912, w1913⟩
theorem kL_20 : LkV RL 20 mX11_wall 2 := ⟨⟨w878, w1, (by unfold yw; rw [if_pos rfl]; exact w881), ⟨by decide, by decide, by decide +kernel⟩, by decide⟩, w879, w880⟩
theorem kL_24 : LkV RL 24 mX11_word 2 := ⟨⟨w889, w1, (by unfold yw; rw [if_pos rfl]; exact w892), ⟨by decide, by decide, by decide +kernel⟩, by decide⟩, w890, w891⟩
theorem kL_27 : LkV RL 27 mX11_say 2 := ⟨⟨w896, w1, (by unfold yw; rw [if_pos rfl]; exact w899), ⟨by decide, by decide, by decide +kernel⟩, by decide⟩, w897, w898⟩
theorem kL_30 : LkV RL 30 mX11_heard 3 := ⟨⟨w911, w1, (by unfold yw; rw [if_pos rfl]; exact w914), ⟨by decide, by decide, by decide +kernel⟩, by decide⟩, w912, w913⟩
theorem kL_34 : LkV RL 34 mX11_loud 4 := ⟨⟨w976, w1, (by unfold yw; rw [if_pos rfl]; exact w979), ⟨by decide, by decide, by decide +kernel⟩, by decide⟩, w977, w978⟩
theorem kL_38 : LkV RL 38 mX11_lines 2 := ⟨⟨w987, w1, (by unfold yw; rw [if_pos rfl]; exact w990), ⟨by decide, by decide, by decide +kernel⟩, by decide⟩, w988, w989⟩
theorem kL_41 : LkV RL 41 mX11_line 3 := ⟨⟨w1047, w1, (by unfold yw; rw [if_pos rfl]; exact w1050), ⟨by decide, by decide, by decide +kernel⟩, by decide⟩, w1048, w1049⟩
theorem kL_44 : LkV RL 44 mX11_still 2 := ⟨⟨w1066, w1, (by unfold yw; rw [if_pos rfl]; exact w1069), ⟨by decide, by decide, by decide +kernel⟩, by decide⟩, w1067, w1068⟩
theorem kL_47 : LkV RL 47 mX11_without 2 := ⟨⟨w1077, w1, (by unfold yw; rw [if_pos rfl]; exact w1080), ⟨by decide, by decide, by decide +kernel⟩, by decide⟩, w1078, w1079⟩
theorem kL_50 : LkV RL 50 mX11_lasts 1 := ⟨⟨w1084, w1, (by unfold yw; rw [if_pos rfl]; exact w1087), ⟨by decide, by decide, by decide +kernel⟩, by decide⟩, w1085, w1086⟩
theorem kL_53 : LkV RL 53 mX11_sing 2 := ⟨⟨w1109, w1, (by unfold yw; rw [if_pos rfl]; exact w1112), ⟨by decide, by decide, by decide +kernel⟩, by decide⟩, w1110, w1111⟩
theorem kL_56 : LkV RL 56 mX11_round 1 := ⟨⟨w1116, w1, (by unfold yw; rw [if_pos rfl]; exact w1119), ⟨by decide, by decide, by decide +kernel⟩, by decide⟩, w1117, w1118⟩
theorem kL_59 : LkV RL 59 mX11_tell 1 := ⟨⟨w1144, w1, (by unfold yw; rw [if_pos rfl]; exact w1147), ⟨by decide, by decide, by decide +kernel⟩, by decide⟩, w1145, w1146⟩
theorem kL_62 : LkV RL 62 mX11_rivals 2 := ⟨⟨w1151, w1, (by unfold yw; rw [if_pos rfl]; exact w1154), ⟨by decide, by decide, by decide +kernel⟩, by decide⟩, w1152, w1153⟩
theorem kL_65 : LkV RL 65 mX11_sayers 1 := ⟨⟨w1195, w1, (by unfold yw; rw [if_pos rfl]; exact w1198), ⟨by decide, by decide, by decide +kernel⟩, by decide⟩, w1196, w1197⟩
theorem kL_68 : LkV RL 68 mX11_stand 3 := ⟨⟨w1224, w1, (by unfold yw; rw [if_pos rfl]; exact w1227), ⟨by decide, by decide, by decide +kernel⟩, by decide⟩, w1225, w1226⟩
theorem kL_7 : LkV RL 7 mX11_gorge 1 := ⟨⟨w633, w1, (by unfold yw; rw [if_pos rfl]; exact w636), ⟨by decide, by decide, by decide +kernel⟩, by decide⟩, w634, w635⟩
theorem kL_72 : LkV RL 72 mX11_matching 3 := ⟨⟨w1231, w1, (by unfold yw; rw [if_pos rfl]; exact w1234), ⟨by decide, by decide, by decide +kernel⟩, by decide⟩, w1232, w1233⟩
theorem kL_75 : LkV RL 75 mX11_moved 5 := ⟨⟨w1257, w1, (by unfold yw; rw [if_pos rfl]; exact w1260), ⟨by decide, by decide, by decide +kernel⟩, by decide⟩, w1258, w1259⟩
theorem kL_79 : LkV RL 79 mX11_code 2 := ⟨⟨w1278, w1, (by unfold yw; rw [if_pos rfl]; exact w1281), ⟨by decide, by decide, by decide +kernel⟩, by decide⟩, w1279, w1280⟩
theorem kL_86 : LkV RL 86 mX11_feed 5 := ⟨⟨w584, w1, (by unfold yw; rw [if_pos rfl]; exact w587), ⟨by decide, by decide, by decide +kernel⟩, by decide⟩, w585, w586⟩
theorem kL_89 : LkV RL 89 mX12_feed 5 := ⟨⟨w1583, w14, (by unfold yw; rw [if_pos rfl]; exact w1586), ⟨by decide, by decide, by decide +kernel⟩, by decide⟩, w1584, w1585⟩
theorem kL_90 : LkS RL 90 mL_gorge 3 := ⟨⟨w629, w0, (by unfold yw; rw [if_neg (by decide)]; exact w631), ⟨by decide, by decide, by decide +kernel⟩, by decide⟩, w630⟩
theorem kL_95 : LkV RL 95 mX12_gorge 1 := ⟨⟨w1591, w14, (by unfold yw; rw [if_pos rfl]; exact w1594), ⟨by decide, by decide, by decide +kernel⟩, by decide⟩, w1592, w1593⟩
theorem kL_96 : LkV RL 96 mX12_thrown 0 := ⟨⟨w1579, w14, (by unfold yw; rw [if_pos rfl]; exact w1582), ⟨by decide, by decide, by decide +kernel⟩, by decide⟩, w1580, w1581⟩
theorem kX12_142 : LkV RX12 142 mX12_lays 1 := ⟨⟨w1587, w14, (by unfold yw; rw [if_pos rfl]; exact w1590), ⟨by decide, by decide, by decide +kernel⟩, by decide⟩, w1589, v54⟩
theorem kX12_152 : LkV RX12 152 mX12_byteAt 1 := ⟨⟨w1603, w14, (by unfold yw; rw [if_pos rfl]; exact w1606), ⟨by decide, by decide, by decide +kernel⟩, by decide⟩, w1605, v57⟩
theorem kX12_169 : LkS RX12 169 mX12_isLetter 1 := ⟨⟨w1607, w14, (by unfold yw; rw [if_pos rfl]; exact w1609), ⟨by decide, by decide, by decide +kernel⟩, by decide⟩, w1608⟩
theorem kX12_173 : LkS RX12 173 mX12_isDigit 1 := ⟨⟨w1610, w14, (by unfold yw; rw [if_pos rfl]; exact w1612), ⟨by decide, by decide, by decide +kernel⟩, by decide⟩, w1611⟩
theorem kX12_179 : LkS RX12 179 mX12_spelled 8 := ⟨⟨w1628, w14, (by unfold yw; rw [if_pos rfl]; exact w1630), ⟨by decide, by decide, by decide +kernel⟩, by decide⟩, w1629⟩
theorem kX12_183 : LkS RX12 183 mX12_lettersOf 1 := ⟨⟨w1625, w14, (by unfold yw; rw [if_pos rfl]; exact w1627), ⟨by decide, by decide, by decide +kernel⟩, by decide⟩, w1626⟩
theorem kX12_190 : LkV RX12 190 mX12_isGood 0 := ⟨⟨w1613, w14, (by unfold yw; rw [if_pos rfl]; exact w1616), ⟨by decide, by decide, by decide +kernel⟩, by decide⟩, w1615, v58⟩
theorem kX12_194 : LkV RX12 194 mX12_steps 0 := ⟨⟨w1599, w14, (by unfold yw; rw [if_pos rfl]; exact w1602), ⟨by decide, by decide, by decide +kernel⟩, by decide⟩, w1601, v56⟩
theorem kX12_197 : LkV RX12 197 mX12_wrong 1 := ⟨⟨w1631, w14, (by unfold yw; rw [if_pos rfl]; exact w1634), ⟨by decide, by decide, by decide +kernel⟩, by decide⟩, w1633, v61⟩
theorem kX12_206 : LkV RX12 206 mX12_number 2 := ⟨⟨w1635, w14, (by unfold yw; rw [if_pos rfl]; exact w1638), ⟨by decide, by decide, by decide +kernel⟩, by decide⟩, w1637, v62⟩
theorem kX12_210 : LkV RX12 210 mX12_is 1 := ⟨⟨w1621, w14, (by unfold yw; rw [if_pos rfl]; exact w1624), ⟨by decide, by decide, by decide +kernel⟩, by decide⟩, w1623, v60⟩
theorem kX12_213 : LkV RX12 213 mX12_soundHere 0 := ⟨⟨w1651, w14, (by unfold yw; rw [if_pos rfl]; exact w1654), ⟨by decide, by decide, by decide +kernel⟩, by decide⟩, w1653, v66⟩
theorem kX12_225 : LkV RX12 225 mX12_readsWall 0 := ⟨⟨w1639, w14, (by unfold yw; rw [if_pos rfl]; exact w1642), ⟨by decide, by decide, by decide +kernel⟩, by decide⟩, w1641, v63⟩
theorem kX12_232 : LkV RX12 232 mX12_readsAir 0 := ⟨⟨w1643, w14, (by unfold yw; rw [if_pos rfl]; exact w1646), ⟨by decide, by decide, by decide +kernel⟩, by decide⟩, w1645, v64⟩
theorem kX12_247 : LkV RX12 247 mX12_readsSweet 0 := ⟨⟨w1647, w14, (by unfold yw; rw [if_pos rfl]; exact w1650), ⟨by decide, by decide, by decide +kernel⟩, by decide⟩, w1649, v65⟩
theorem kX12_250 : LkV RX12 250 mX12_readsWord 0 := ⟨⟨w1655, w14, (by unfold yw; rw [if_pos rfl]; exact w1658), ⟨by decide, by decide, by decide +kernel⟩, by decide⟩, w1657, v67⟩
theorem kX12_253 : LkV RX12 253 mX12_readsForm 0 := ⟨⟨w1659, w14, (by unfold yw; rw [if_pos rfl]; exact w1662), ⟨by decide, by decide, by decide +kernel⟩, by decide⟩, w1661, v68⟩
theorem kX12_256 : LkV RX12 256 mX12_need 1 := ⟨⟨w1663, w14, (by unfold yw; rw [if_pos rfl]; exact w1666), ⟨by decide, by decide, by decide +kernel⟩, by decide⟩, w1665, v69⟩
theorem kX12_260 : LkV RX12 260 mX12_right 2 := ⟨⟨w1595, w14, (by unfold yw; rw [if_pos rfl]; exact w1598), ⟨by decide, by decide, by decide +kernel⟩, by decide⟩, w1597, v55⟩
theorem kX12_264 : LkV RX12 264 mX12_line 0 := ⟨⟨w1617, w14, (by unfold yw; rw [if_pos rfl]; exact w1620), ⟨by decide, by decide, by decide +kernel⟩, by decide⟩, w1619, v59⟩
theorem kX12_285 : LkV RX12 285 mX12_copies 2 := ⟨⟨w1667, w14, (by unfold yw; rw [if_pos rfl]; exact w1670), ⟨by decide, by decide, by decide +kernel⟩, by decide⟩, w1669, v70⟩
theorem kX12_301 : LkS RX12 301 mX12_within 3 := ⟨⟨w1679, w14, (by unfold yw; rw [if_pos rfl]; exact w1681), ⟨by decide, by decide, by decide +kernel⟩, by decide⟩, w1680⟩
theorem kX12_305 : LkV RX12 305 mX12_allLines 0 := ⟨⟨w1682, w14, (by unfold yw; rw [if_pos rfl]; exact w1685), ⟨by decide, by decide, by decide +kernel⟩, by decide⟩, w1684, v71⟩
theorem kX12_318 : LkV RX12 318 mX12_comes 3 := ⟨⟨w1738, w14, (by unfold yw; rw [if_pos rfl]; exact w1741), ⟨by decide, by decide, by decide +kernel⟩, by decide⟩, w1740, v80⟩
theorem kX12_325 : LkV RX12 325 mX12_isSound 1 := ⟨⟨w1710, w14, (by unfold yw; rw [if_pos rfl]; exact w1713), ⟨by decide, by decide, by decide +kernel⟩, by decide⟩, w1712, v75⟩
theorem kX12_328 : LkV RX12 328 mX12_opens 3 := ⟨⟨w1730, w14, (by unfold yw; rw [if_pos rfl]; exact w1733), ⟨by decide, by decide, by decide +kernel⟩, by decide⟩, w1732, v78⟩
theorem kX12_331 : LkV RX12 331 mX12_says 2 := ⟨⟨w1734, w14, (by unfold yw; rw [if_pos rfl]; exact w1737), ⟨by decide, by decide, by decide +kernel⟩, by decide⟩, w1736, v79⟩
theorem kX12_335 : LkV RX12 335 mX12_isWhere 3 := ⟨⟨w1722, w14, (by unfold yw; rw [if_pos rfl]; exact w1725), ⟨by decide, by decide, by decide +kernel⟩, by decide⟩, w1724, v76⟩
theorem kX12_338 : LkV RX12 338 mX12_allSaid 3 := ⟨⟨w1726, w14, (by unfold yw; rw [if_pos rfl]; exact w1729), ⟨by decide, by decide, by decide +kernel⟩, by decide⟩, w1728, v77⟩
theorem kX12_341 : LkV RX12 341 mX12_hears 1 := ⟨⟨w1742, w14, (by unfold yw; rw [if_pos rfl]; exact w1745), ⟨by decide, by decide, by decide +kernel⟩, by decide⟩, w1744, v81⟩
theorem kX12_344 : LkV RX12 344 mX12_kindOf 2 := ⟨⟨w1690, w14, (by unfold yw; rw [if_pos rfl]; exact w1693), ⟨by decide, by decide, by decide +kernel⟩, by decide⟩, w1692, v73⟩
theorem kX12_347 : LkV RX12 347 mX12_wordsOf 1 := ⟨⟨w1694, w14, (by unfold yw; rw [if_pos rfl]; exact w1697), ⟨by decide, by decide, by decide +kernel⟩, by decide⟩, w1696, v74⟩
theorem kX12_350 : LkV RX12 350 mX12_linesOf 1 := ⟨⟨w1686, w14, (by unfold yw; rw [if_pos rfl]; exact w1689), ⟨by decide, by decide, by decide +kernel⟩, by decide⟩, w1688, v72⟩
theorem kX12_356 : LkV RX12 356 mX12_nextForm 0 := ⟨⟨w1766, w14, (by unfold yw; rw [if_pos rfl]; exact w1769), ⟨by decide, by decide, by decide +kernel⟩, by decide⟩, w1768, v85⟩
theorem kX12_359 : LkV RX12 359 mX12_wordBehind 2 := ⟨⟨w1770, w14, (by unfold yw; rw [if_pos rfl]; exact w1773), ⟨by decide, by decide, by decide +kernel⟩, by decide⟩, w1772, v86⟩
theorem kX12_365 : LkV RX12 365 mX12_speaks 0 := ⟨⟨w1782, w14, (by unfold yw; rw [if_pos rfl]; exact w1785), ⟨by decide, by decide, by decide +kernel⟩, by decide⟩, w1784, v89⟩
theorem kX12_371 : LkV RX12 371 mX12_isWordAt 2 := ⟨⟨w1790, w14, (by unfold yw; rw [if_pos rfl]; exact w1793), ⟨by decide, by decide, by decide +kernel⟩, by decide⟩, w1792, v91⟩
theorem kX12_375 : LkV RX12 375 mX12_returns 1 := ⟨⟨w1778, w14, (by unfold yw; rw [if_pos rfl]; exact w1781), ⟨by decide, by decide, by decide +kernel⟩, by decide⟩, w1780, v88⟩
theorem kX12_378 : LkV RX12 378 mX12_isLine 0 := ⟨⟨w1786, w14, (by unfold yw; rw [if_pos rfl]; exact w1789), ⟨by decide, by decide, by decide +kernel⟩, by decide⟩, w1788, v90⟩
theorem kX12_393 : LkV RX12 393 mX12_firstLine 0 := ⟨⟨w1762, w14, (by unfold yw; rw [if_pos rfl]; exact w1765), ⟨by decide, by decide, by decide +kernel⟩, by decide⟩, w1764, v84⟩
theorem kX12_396 : LkV RX12 396 mX12_answers 1 := ⟨⟨w1774, w14, (by unfold yw; rw [if_pos rfl]; exact w1777), ⟨by decide, by decide, by decide +kernel⟩, by decide⟩, w1776, v87⟩
theorem kX12_399 : LkV RX12 399 mX12_isEchoed 0 := ⟨⟨w1794, w14, (by unfold yw; rw [if_pos rfl]; exact w1797), ⟨by decide, by decide, by decide +kernel⟩, by decide⟩, w1796, v92⟩
theorem kX12_405 : LkV RX12 405 mX12_nextLine 0 := ⟨⟨w1798, w14, (by unfold yw; rw [if_pos rfl]; exact w1801), ⟨by decide, by decide, by decide +kernel⟩, by decide⟩, w1800, v93⟩
theorem kX12_408 : LkV RX12 408 mX12_isHour 1 := ⟨⟨w1754, w14, (by unfold yw; rw [if_pos rfl]; exact w1757), ⟨by decide, by decide, by decide +kernel⟩, by decide⟩, w1756, v82⟩
theorem kX12_411 : LkV RX12 411 mX12_goesThrough 1 := ⟨⟨w1758, w14, (by unfold yw; rw [if_pos rfl]; exact w1761), ⟨by decide, by decide, by decide +kernel⟩, by decide⟩, w1760, v83⟩
theorem kX12_414 : LkS RX12 414 mX12_bits 1 := ⟨⟨w1802, w14, (by unfold yw; rw [if_pos rfl]; exact w1804), ⟨by decide, by decide, by decide +kernel⟩, by decide⟩, w1803⟩
theorem kX12_417 : LkV RX12 417 mX12_stillOf 4 := ⟨⟨w1813, w14, (by unfold yw; rw [if_pos rfl]; exact w1816), ⟨by decide, by decide, by decide +kernel⟩, by decide⟩, w1815, v94⟩
theorem kX12_421 : LkV RX12 421 mX12_clashes 1 := ⟨⟨w1833, w14, (by unfold yw; rw [if_pos rfl]; exact w1836), ⟨by decide, by decide, by decide +kernel⟩, by decide⟩, w1835, v95⟩
theorem kX12_424 : LkV RX12 424 mX12_toldAt 1 := ⟨⟨w1862, w14, (by unfold yw; rw [if_pos rfl]; exact w1865), ⟨by decide, by decide, by decide +kernel⟩, by decide⟩, w1864, v99⟩
theorem kX12_431 : LkV RX12 431 mX12_saysBy 4 := ⟨⟨w1854, w14, (by unfold yw; rw [if_pos rfl]; exact w1857), ⟨by decide, by decide, by decide +kernel⟩, by decide⟩, w1856, v97⟩
theorem kX12_435 : LkV RX12 435 mX12_isTold 0 := ⟨⟨w1858, w14, (by unfold yw; rw [if_pos rfl]; exact w1861), ⟨by decide, by decide, by decide +kernel⟩, by decide⟩, w1860, v98⟩
theorem kX12_438 : LkS RX12 438 mX12_next0 2 := ⟨⟨w1866, w14, (by unfold yw; rw [if_pos rfl]; exact w1868), ⟨by decide, by decide, by decide +kernel⟩, by decide⟩, w1867⟩
theorem kX12_441 : LkV RX12 441 mX12_finds 1 := ⟨⟨w1849, w14, (by unfold yw; rw [if_pos rfl]; exact w1852), ⟨by decide, by decide, by decide +kernel⟩, by decide⟩, w1851, v96⟩
theorem kX12_445 : LkV RX12 445 mX12_group 2 := ⟨⟨w1870, w14, (by unfold yw; rw [if_pos rfl]; exact w1873), ⟨by decide, by decide, by decide +kernel⟩, by decide⟩, w1872, v100⟩
theorem kX12_448 : LkV RX12 448 mX12_ticksTo 2 := ⟨⟨w1890, w14, (by unfold yw; rw [if_pos rfl]; exact w1893), ⟨by decide, by decide, by decide +kernel⟩, by decide⟩, w1892, v102⟩
theorem kX12_451 : LkV RX12 451 mX12_matches 3 := ⟨⟨w1886, w14, (by unfold yw; rw [if_pos rfl]; exact w1889), ⟨by decide, by decide, by decide +kernel⟩, by decide⟩, w1888, v101⟩
theorem kX12_454 : LkV RX12 454 mX12_falls 1 := ⟨⟨w1902, w14, (by unfold yw; rw [if_pos rfl]; exact w1905), ⟨by decide, by decide, by decide +kernel⟩, by decide⟩, w1904, v103⟩
