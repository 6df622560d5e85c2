theorem tw1 {w : Cond} (h : w ∈ tables_1_1) (g : goodWord w = true) : w ∈ GW := gw_in (List.mem_append_right _ (List.mem_append_left _ h)) g
theorem tw2 {w : Cond} (h : w ∈ tables_1_2) (g : goodWord w = true) : w ∈ GW := gw_in (List.mem_append_right _ (List.mem_append_right _ (List.mem_append_left _ h))) g
theorem tw3 {w : Cond} (h : w ∈ tables_1_3) (g : goodWord w = true) : w ∈ GW := gw_in (List.mem_append_right _ (List.mem_append_right _ (List.mem_append_right _ (List.mem_append_left _ h)))) g
theorem tw4 {w : Cond} (h : w ∈ tables_1_4) (g : goodWord w = true) : w ∈ GW := gw_in (List.mem_append_right _ (List.mem_append_right _ (List.mem_append_right _ (List.mem_append_right _ (List.mem_append_left _ h))))) g
theorem tw5 {w : Cond} (h : w ∈ tables_1_5) (g : goodWord w = true) : w ∈ GW := gw_in (List.mem_append_right _ (List.mem_append_right _ (List.mem_append_right _ (List.mem_append_right _ (List.mem_append_right _ (List.mem_append_left _ h)))))) g
theorem tw6 {w : Cond} (h : w ∈ tables_1_6) (g : goodWord w = true) : w ∈ GW := gw_in (List.mem_append_right _ (List.mem_append_right _ (List.mem_append_right _ (List.mem_append_right _ (List.mem_append_right _ (List.mem_append_right _ (List.mem_append_left _ h))))))) g
theorem tw7 {w : Cond} (h : w ∈ tables_1_7) (g : goodWord w = true) : w ∈ GW := gw_in (List.mem_append_right _ (List.mem_append_right _ (List.mem_append_right _ (List.mem_append_right _ (List.mem_append_right _ (List.mem_append_right _ (List.mem_append_right _ (List.mem_append_left _ h)))))))) g
theorem tw8 {w : Cond} (h : w ∈ tables_1_8) (g : goodWord w = true) : w ∈ GW := gw_in (List.mem_append_right _ (List.mem_append_right _ (List.mem_append_right _ (List.mem_append_right _ (List.mem_append_right _ (List.mem_append_right _ (List.mem_append_right _ (List.mem_append_right _ (List.mem_append_left _ h))))))))) g
theorem tw9 {w : Cond} (h : w ∈ tables_1_9) (g : goodWord w = true) : w ∈ GW := gw_in (List.mem_append_right _ (List.mem_append_right _ (List.mem_append_right _ (List.mem_append_right _ (List.mem_append_right _ (List.mem_append_right _ (List.mem_append_right _ (List.mem_append_right _ (List.mem_append_right _ h))))))))) g
theorem wd0 : ((Jvm.Cond.initialized "EchoGorgeLaw") : Cond) ∈ GW := tw1 (List.mem_of_getElem? (i := 0) rfl) rfl
theorem wd1 : ((Jvm.Cond.initialized "EchoGorge") : Cond) ∈ GW := tw1 (List.mem_of_getElem? (i := 1) rfl) rfl
theorem wd2 : ((Jvm.Cond.initialized "EchoGorge$Gorge") : Cond) ∈ GW := tw1 (List.mem_of_getElem? (i := 2) rfl) rfl
theorem wd3 : ((Jvm.Cond.initialized "java/util/Arrays") : Cond) ∈ GW := tw1 (List.mem_of_getElem? (i := 3) rfl) rfl
theorem wd4 : ((Jvm.Cond.initialized "EchoGorge$Scene") : Cond) ∈ GW := tw1 (List.mem_of_getElem? (i := 4) rfl) rfl
theorem wd5 : ((Jvm.Cond.initialized "EchoGorge$Reader") : Cond) ∈ GW := tw1 (List.mem_of_getElem? (i := 5) rfl) rfl
theorem wd6 : ((Jvm.Cond.initialized "EchoGorge$Returns") : Cond) ∈ GW := tw1 (List.mem_of_getElem? (i := 6) rfl) rfl
theorem wd7 : ((Jvm.Cond.initialized "EchoGorge$Hearing") : Cond) ∈ GW := tw1 (List.mem_of_getElem? (i := 7) rfl) rfl
theorem wd8 : ((Jvm.Cond.initialized "EchoGorge$Verses") : Cond) ∈ GW := tw1 (List.mem_of_getElem? (i := 8) rfl) rfl
theorem wd9 : ((Jvm.Cond.initialized "EchoGorge$Chant") : Cond) ∈ GW := tw1 (List.mem_of_getElem? (i := 9) rfl) rfl
theorem wd10 : ((Jvm.Cond.initialized "EchoGorge$Guess") : Cond) ∈ GW := tw1 (List.mem_of_getElem? (i := 10) rfl) rfl
theorem wd11 : ((Jvm.Cond.initialized "EchoGorge$Truth") : Cond) ∈ GW := tw1 (List.mem_of_getElem? (i := 11) rfl) rfl
theorem wd12 : ((Jvm.Cond.initialized "EchoGorge$Places") : Cond) ∈ GW := tw1 (List.mem_of_getElem? (i := 12) rfl) rfl
theorem wd13 : ((Jvm.Cond.initialized "EchoGorge$Claps") : Cond) ∈ GW := tw1 (List.mem_of_getElem? (i := 13) rfl) rfl
theorem wd14 : ((Jvm.Cond.initialized "EchoGorgeModel") : Cond) ∈ GW := tw1 (List.mem_of_getElem? (i := 14) rfl) rfl
theorem wd18 : ((Jvm.Cond.initialized "java/lang/IllegalArgumentException") : Cond) ∈ GW := tw1 (List.mem_of_getElem? (i := 18) rfl) rfl
theorem wd19 : ((Jvm.Cond.initialized "java/lang/Math") : Cond) ∈ GW := tw1 (List.mem_of_getElem? (i := 19) rfl) rfl
theorem wd24 : ((Jvm.Cond.initialized "java/util/NoSuchElementException") : Cond) ∈ GW := tw1 (List.mem_of_getElem? (i := 24) rfl) rfl
theorem wd25 : ((Jvm.Cond.initialized "java/lang/System") : Cond) ∈ GW := tw1 (List.mem_of_getElem? (i := 25) rfl) rfl
theorem wd26 : ((Jvm.Cond.initialized "java/lang/Integer") : Cond) ∈ GW := tw1 (List.mem_of_getElem? (i := 26) rfl) rfl
theorem wd42 : ((Jvm.Cond.instanceMethod ⟨"EchoGorge$Gorge","clear","()V"⟩) : Cond) ∈ GW := tw1 (List.mem_of_getElem? (i := 42) rfl) rfl
theorem wd43 : ((Jvm.Cond.selects "EchoGorge$Gorge" ⟨"EchoGorge$Gorge","clear","()V"⟩ ⟨"EchoGorge$Gorge","clear","()V"⟩) : Cond) ∈ GW := tw1 (List.mem_of_getElem? (i := 43) rfl) rfl
theorem wd44 : ((Jvm.Cond.code ⟨"EchoGorge$Gorge","clear","()V"⟩ prog_4_method_2_code 1 (Option.none : Option Jvm.ClassFile.FieldType)) : Cond) ∈ GW := tw1 (List.mem_of_getElem? (i := 44) rfl) rfl
theorem wd45 : ((Jvm.Cond.methodLink "EchoGorge$Gorge" 79 ⟨"java/util/Arrays","fill","([II)V"⟩) : Cond) ∈ GW := tw1 (List.mem_of_getElem? (i := 45) rfl) rfl
theorem wd46 : ((Jvm.Cond.static ⟨"java/util/Arrays","fill","([II)V"⟩) : Cond) ∈ GW := tw1 (List.mem_of_getElem? (i := 46) rfl) rfl
theorem wd47 : ((Jvm.Cond.code ⟨"java/util/Arrays","fill","([II)V"⟩ prog_30_method_103_code 4 (Option.none : Option Jvm.ClassFile.FieldType)) : Cond) ∈ GW := tw1 (List.mem_of_getElem? (i := 47) rfl) rfl
theorem wd48 : ((Jvm.Cond.fieldLink "EchoGorge$Gorge" 57 "EchoGorge$Gorge" "sounds" "I") : Cond) ∈ GW := tw1 (List.mem_of_getElem? (i := 48) rfl) rfl
theorem wd49 : ((Jvm.Cond.fieldLink "EchoGorge$Returns" 51 "EchoGorge$Gorge" "sounds" "I") : Cond) ∈ GW := tw1 (List.mem_of_getElem? (i := 49) rfl) rfl
theorem wd50 : ((Jvm.Cond.fieldLink "EchoGorge$Chant" 59 "EchoGorge$Gorge" "sounds" "I") : Cond) ∈ GW := tw1 (List.mem_of_getElem? (i := 50) rfl) rfl
theorem wd51 : ((Jvm.Cond.fieldLink "EchoGorge" 135 "EchoGorge$Gorge" "sounds" "I") : Cond) ∈ GW := tw1 (List.mem_of_getElem? (i := 51) rfl) rfl
theorem wd52 : ((Jvm.Cond.fieldLink "EchoGorge$Guess" 107 "EchoGorge$Gorge" "sounds" "I") : Cond) ∈ GW := tw1 (List.mem_of_getElem? (i := 52) rfl) rfl
theorem wd53 : ((Jvm.Cond.fieldLink "EchoGorge$Reader" 94 "EchoGorge$Gorge" "sounds" "I") : Cond) ∈ GW := tw1 (List.mem_of_getElem? (i := 53) rfl) rfl
theorem wd54 : ((Jvm.Cond.fieldLink "EchoGorge$Gorge" 61 "EchoGorge$Gorge" "walls" "I") : Cond) ∈ GW := tw1 (List.mem_of_getElem? (i := 54) rfl) rfl
theorem wd55 : ((Jvm.Cond.fieldLink "EchoGorge$Returns" 60 "EchoGorge$Gorge" "walls" "I") : Cond) ∈ GW := tw1 (List.mem_of_getElem? (i := 55) rfl) rfl
theorem wd56 : ((Jvm.Cond.fieldLink "EchoGorge" 138 "EchoGorge$Gorge" "walls" "I") : Cond) ∈ GW := tw1 (List.mem_of_getElem? (i := 56) rfl) rfl
theorem wd57 : ((Jvm.Cond.fieldLink "EchoGorge$Reader" 151 "EchoGorge$Gorge" "walls" "I") : Cond) ∈ GW := tw1 (List.mem_of_getElem? (i := 57) rfl) rfl
theorem wd58 : ((Jvm.Cond.fieldLink "EchoGorge$Verses" 180 "EchoGorge$Gorge" "walls" "I") : Cond) ∈ GW := tw1 (List.mem_of_getElem? (i := 58) rfl) rfl
theorem wd59 : ((Jvm.Cond.fieldLink "EchoGorge$Gorge" 64 "EchoGorge$Gorge" "words" "I") : Cond) ∈ GW := tw1 (List.mem_of_getElem? (i := 59) rfl) rfl
theorem wd60 : ((Jvm.Cond.fieldLink "EchoGorge$Verses" 52 "EchoGorge$Gorge" "words" "I") : Cond) ∈ GW := tw1 (List.mem_of_getElem? (i := 60) rfl) rfl
theorem wd61 : ((Jvm.Cond.fieldLink "EchoGorge" 141 "EchoGorge$Gorge" "words" "I") : Cond) ∈ GW := tw1 (List.mem_of_getElem? (i := 61) rfl) rfl
theorem wd62 : ((Jvm.Cond.fieldLink "EchoGorge$Reader" 192 "EchoGorge$Gorge" "words" "I") : Cond) ∈ GW := tw1 (List.mem_of_getElem? (i := 62) rfl) rfl
theorem wd63 : ((Jvm.Cond.fieldLink "EchoGorge$Gorge" 67 "EchoGorge$Gorge" "forms" "I") : Cond) ∈ GW := tw1 (List.mem_of_getElem? (i := 63) rfl) rfl
theorem wd64 : ((Jvm.Cond.fieldLink "EchoGorge$Verses" 68 "EchoGorge$Gorge" "forms" "I") : Cond) ∈ GW := tw1 (List.mem_of_getElem? (i := 64) rfl) rfl
theorem wd65 : ((Jvm.Cond.fieldLink "EchoGorge" 144 "EchoGorge$Gorge" "forms" "I") : Cond) ∈ GW := tw1 (List.mem_of_getElem? (i := 65) rfl) rfl
theorem wd66 : ((Jvm.Cond.fieldLink "EchoGorge$Reader" 203 "EchoGorge$Gorge" "forms" "I") : Cond) ∈ GW := tw1 (List.mem_of_getElem? (i := 66) rfl) rfl
theorem wd67 : ((Jvm.Cond.fieldLink "EchoGorge$Gorge" 70 "EchoGorge$Gorge" "least" "I") : Cond) ∈ GW := tw1 (List.mem_of_getElem? (i := 67) rfl) rfl
theorem wd68 : ((Jvm.Cond.fieldLink "EchoGorge$Hearing" 57 "EchoGorge$Gorge" "least" "I") : Cond) ∈ GW := tw1 (List.mem_of_getElem? (i := 68) rfl) rfl
theorem wd69 : ((Jvm.Cond.fieldLink "EchoGorge$Chant" 64 "EchoGorge$Gorge" "least" "I") : Cond) ∈ GW := tw1 (List.mem_of_getElem? (i := 69) rfl) rfl
theorem wd70 : ((Jvm.Cond.fieldLink "EchoGorge$Guess" 117 "EchoGorge$Gorge" "least" "I") : Cond) ∈ GW := tw1 (List.mem_of_getElem? (i := 70) rfl) rfl
theorem wd71 : ((Jvm.Cond.fieldLink "EchoGorge$Reader" 178 "EchoGorge$Gorge" "least" "I") : Cond) ∈ GW := tw1 (List.mem_of_getElem? (i := 71) rfl) rfl
theorem wd72 : ((Jvm.Cond.fieldLink "EchoGorge$Verses" 170 "EchoGorge$Gorge" "least" "I") : Cond) ∈ GW := tw1 (List.mem_of_getElem? (i := 72) rfl) rfl
theorem wd73 : ((Jvm.Cond.fieldLink "EchoGorge$Gorge" 73 "EchoGorge$Gorge" "window" "I") : Cond) ∈ GW := tw1 (List.mem_of_getElem? (i := 73) rfl) rfl
theorem wd74 : ((Jvm.Cond.fieldLink "EchoGorge$Hearing" 62 "EchoGorge$Gorge" "window" "I") : Cond) ∈ GW := tw1 (List.mem_of_getElem? (i := 74) rfl) rfl
theorem wd75 : ((Jvm.Cond.fieldLink "EchoGorge$Guess" 64 "EchoGorge$Gorge" "window" "I") : Cond) ∈ GW := tw1 (List.mem_of_getElem? (i := 75) rfl) rfl
theorem wd76 : ((Jvm.Cond.fieldLink "EchoGorge" 211 "EchoGorge$Gorge" "window" "I") : Cond) ∈ GW := tw1 (List.mem_of_getElem? (i := 76) rfl) rfl
theorem wd77 : ((Jvm.Cond.fieldLink "EchoGorge$Reader" 181 "EchoGorge$Gorge" "window" "I") : Cond) ∈ GW := tw1 (List.mem_of_getElem? (i := 77) rfl) rfl
theorem wd78 : ((Jvm.Cond.fieldLink "EchoGorge$Gorge" 76 "EchoGorge$Gorge" "margin" "I") : Cond) ∈ GW := tw1 (List.mem_of_getElem? (i := 78) rfl) rfl
theorem wd79 : ((Jvm.Cond.fieldLink "EchoGorge$Hearing" 71 "EchoGorge$Gorge" "margin" "I") : Cond) ∈ GW := tw1 (List.mem_of_getElem? (i := 79) rfl) rfl
theorem wd80 : ((Jvm.Cond.fieldLink "EchoGorge$Guess" 121 "EchoGorge$Gorge" "margin" "I") : Cond) ∈ GW := tw1 (List.mem_of_getElem? (i := 80) rfl) rfl
theorem wd81 : ((Jvm.Cond.fieldLink "EchoGorge$Reader" 184 "EchoGorge$Gorge" "margin" "I") : Cond) ∈ GW := tw1 (List.mem_of_getElem? (i := 81) rfl) rfl
theorem wd83 : ((Jvm.Cond.fieldLink "EchoGorge$Returns" 50 "EchoGorge$Gorge" "loud" "[I") : Cond) ∈ GW := tw1 (List.mem_of_getElem? (i := 83) rfl) rfl
theorem wd84 : ((Jvm.Cond.fieldLink "EchoGorge$Guess" 120 "EchoGorge$Gorge" "loud" "[I") : Cond) ∈ GW := tw1 (List.mem_of_getElem? (i := 84) rfl) rfl
theorem wd85 : ((Jvm.Cond.fieldLink "EchoGorge$Reader" 141 "EchoGorge$Gorge" "loud" "[I") : Cond) ∈ GW := tw1 (List.mem_of_getElem? (i := 85) rfl) rfl
theorem wd86 : ((Jvm.Cond.fieldLink "EchoGorge$Gorge" 15 "EchoGorge$Gorge" "sort" "[I") : Cond) ∈ GW := tw1 (List.mem_of_getElem? (i := 86) rfl) rfl
theorem wd87 : ((Jvm.Cond.fieldLink "EchoGorge$Reader" 145 "EchoGorge$Gorge" "sort" "[I") : Cond) ∈ GW := tw1 (List.mem_of_getElem? (i := 87) rfl) rfl
theorem wd88 : ((Jvm.Cond.fieldLink "EchoGorge$Gorge" 18 "EchoGorge$Gorge" "sweet" "[I") : Cond) ∈ GW := tw1 (List.mem_of_getElem? (i := 88) rfl) rfl
theorem wd89 : ((Jvm.Cond.fieldLink "EchoGorge$Chant" 71 "EchoGorge$Gorge" "sweet" "[I") : Cond) ∈ GW := tw1 (List.mem_of_getElem? (i := 89) rfl) rfl
theorem wd90 : ((Jvm.Cond.fieldLink "EchoGorge$Reader" 190 "EchoGorge$Gorge" "sweet" "[I") : Cond) ∈ GW := tw1 (List.mem_of_getElem? (i := 90) rfl) rfl
theorem wd92 : ((Jvm.Cond.fieldLink "EchoGorge$Returns" 71 "EchoGorge$Gorge" "delay" "[I") : Cond) ∈ GW := tw1 (List.mem_of_getElem? (i := 92) rfl) rfl
theorem wd93 : ((Jvm.Cond.fieldLink "EchoGorge" 162 "EchoGorge$Gorge" "delay" "[I") : Cond) ∈ GW := tw1 (List.mem_of_getElem? (i := 93) rfl) rfl
theorem wd94 : ((Jvm.Cond.fieldLink "EchoGorge$Reader" 154 "EchoGorge$Gorge" "delay" "[I") : Cond) ∈ GW := tw1 (List.mem_of_getElem? (i := 94) rfl) rfl
theorem wd95 : ((Jvm.Cond.fieldLink "EchoGorge$Gorge" 24 "EchoGorge$Gorge" "share" "[I") : Cond) ∈ GW := tw1 (List.mem_of_getElem? (i := 95) rfl) rfl
theorem wd96 : ((Jvm.Cond.fieldLink "EchoGorge" 165 "EchoGorge$Gorge" "share" "[I") : Cond) ∈ GW := tw1 (List.mem_of_getElem? (i := 96) rfl) rfl
theorem wd97 : ((Jvm.Cond.fieldLink "EchoGorge$Reader" 157 "EchoGorge$Gorge" "share" "[I") : Cond) ∈ GW := tw1 (List.mem_of_getElem? (i := 97) rfl) rfl
theorem wd98 : ((Jvm.Cond.fieldLink "EchoGorge$Gorge" 27 "EchoGorge$Gorge" "swallows" "[I") : Cond) ∈ GW := tw1 (List.mem_of_getElem? (i := 98) rfl) rfl
theorem wd99 : ((Jvm.Cond.fieldLink "EchoGorge" 168 "EchoGorge$Gorge" "swallows" "[I") : Cond) ∈ GW := tw1 (List.mem_of_getElem? (i := 99) rfl) rfl
theorem wd100 : ((Jvm.Cond.fieldLink "EchoGorge$Reader" 160 "EchoGorge$Gorge" "swallows" "[I") : Cond) ∈ GW := tw1 (List.mem_of_getElem? (i := 100) rfl) rfl
theorem wd102 : ((Jvm.Cond.fieldLink "EchoGorge$Returns" 74 "EchoGorge$Gorge" "again" "[I") : Cond) ∈ GW := tw1 (List.mem_of_getElem? (i := 102) rfl) rfl
theorem wd103 : ((Jvm.Cond.fieldLink "EchoGorge" 171 "EchoGorge$Gorge" "again" "[I") : Cond) ∈ GW := tw1 (List.mem_of_getElem? (i := 103) rfl) rfl
theorem wd104 : ((Jvm.Cond.fieldLink "EchoGorge$Reader" 163 "EchoGorge$Gorge" "again" "[I") : Cond) ∈ GW := tw1 (List.mem_of_getElem? (i := 104) rfl) rfl
theorem wd105 : ((Jvm.Cond.fieldLink "EchoGorge$Gorge" 33 "EchoGorge$Gorge" "straight" "[I") : Cond) ∈ GW := tw1 (List.mem_of_getElem? (i := 105) rfl) rfl
theorem wd106 : ((Jvm.Cond.fieldLink "EchoGorge$Returns" 41 "EchoGorge$Gorge" "straight" "[I") : Cond) ∈ GW := tw1 (List.mem_of_getElem? (i := 106) rfl) rfl
theorem wd107 : ((Jvm.Cond.fieldLink "EchoGorge$Reader" 174 "EchoGorge$Gorge" "straight" "[I") : Cond) ∈ GW := tw1 (List.mem_of_getElem? (i := 107) rfl) rfl
theorem wd108 : ((Jvm.Cond.fieldLink "EchoGorge$Gorge" 36 "EchoGorge$Gorge" "air" "[I") : Cond) ∈ GW := tw1 (List.mem_of_getElem? (i := 108) rfl) rfl
theorem wd109 : ((Jvm.Cond.fieldLink "EchoGorge$Guess" 33 "EchoGorge$Gorge" "air" "[I") : Cond) ∈ GW := tw1 (List.mem_of_getElem? (i := 109) rfl) rfl
theorem wd110 : ((Jvm.Cond.fieldLink "EchoGorge$Verses" 129 "EchoGorge$Gorge" "air" "[I") : Cond) ∈ GW := tw1 (List.mem_of_getElem? (i := 110) rfl) rfl
theorem wd111 : ((Jvm.Cond.fieldLink "EchoGorge" 197 "EchoGorge$Gorge" "air" "[I") : Cond) ∈ GW := tw1 (List.mem_of_getElem? (i := 111) rfl) rfl
theorem wd112 : ((Jvm.Cond.fieldLink "EchoGorge$Reader" 176 "EchoGorge$Gorge" "air" "[I") : Cond) ∈ GW := tw1 (List.mem_of_getElem? (i := 112) rfl) rfl
theorem wd114 : ((Jvm.Cond.fieldLink "EchoGorge$Verses" 56 "EchoGorge$Gorge" "kind" "[I") : Cond) ∈ GW := tw1 (List.mem_of_getElem? (i := 114) rfl) rfl
theorem wd115 : ((Jvm.Cond.fieldLink "EchoGorge" 174 "EchoGorge$Gorge" "kind" "[I") : Cond) ∈ GW := tw1 (List.mem_of_getElem? (i := 115) rfl) rfl
theorem wd116 : ((Jvm.Cond.fieldLink "EchoGorge$Reader" 195 "EchoGorge$Gorge" "kind" "[I") : Cond) ∈ GW := tw1 (List.mem_of_getElem? (i := 116) rfl) rfl
theorem wd118 : ((Jvm.Cond.fieldLink "EchoGorge$Verses" 84 "EchoGorge$Gorge" "length" "[I") : Cond) ∈ GW := tw1 (List.mem_of_getElem? (i := 118) rfl) rfl
theorem wd119 : ((Jvm.Cond.fieldLink "EchoGorge" 177 "EchoGorge$Gorge" "length" "[I") : Cond) ∈ GW := tw1 (List.mem_of_getElem? (i := 119) rfl) rfl
theorem wd120 : ((Jvm.Cond.fieldLink "EchoGorge$Reader" 198 "EchoGorge$Gorge" "length" "[I") : Cond) ∈ GW := tw1 (List.mem_of_getElem? (i := 120) rfl) rfl
theorem wd122 : ((Jvm.Cond.fieldLink "EchoGorge$Verses" 95 "EchoGorge$Gorge" "spelling" "[I") : Cond) ∈ GW := tw1 (List.mem_of_getElem? (i := 122) rfl) rfl
theorem wd123 : ((Jvm.Cond.fieldLink "EchoGorge" 180 "EchoGorge$Gorge" "spelling" "[I") : Cond) ∈ GW := tw1 (List.mem_of_getElem? (i := 123) rfl) rfl
theorem wd124 : ((Jvm.Cond.fieldLink "EchoGorge$Reader" 200 "EchoGorge$Gorge" "spelling" "[I") : Cond) ∈ GW := tw1 (List.mem_of_getElem? (i := 124) rfl) rfl
theorem wd126 : ((Jvm.Cond.fieldLink "EchoGorge$Verses" 78 "EchoGorge$Gorge" "formLength" "[I") : Cond) ∈ GW := tw1 (List.mem_of_getElem? (i := 126) rfl) rfl
theorem wd127 : ((Jvm.Cond.fieldLink "EchoGorge$Reader" 206 "EchoGorge$Gorge" "formLength" "[I") : Cond) ∈ GW := tw1 (List.mem_of_getElem? (i := 127) rfl) rfl
theorem wd129 : ((Jvm.Cond.fieldLink "EchoGorge$Verses" 81 "EchoGorge$Gorge" "formKind" "[I") : Cond) ∈ GW := tw1 (List.mem_of_getElem? (i := 129) rfl) rfl
theorem wd130 : ((Jvm.Cond.fieldLink "EchoGorge$Reader" 209 "EchoGorge$Gorge" "formKind" "[I") : Cond) ∈ GW := tw1 (List.mem_of_getElem? (i := 130) rfl) rfl
theorem wd183 : ((Jvm.Cond.instanceMethod ⟨"EchoGorge$Scene","clear","()V"⟩) : Cond) ∈ GW := tw1 (List.mem_of_getElem? (i := 183) rfl) rfl
theorem wd184 : ((Jvm.Cond.selects "EchoGorge$Scene" ⟨"EchoGorge$Scene","clear","()V"⟩ ⟨"EchoGorge$Scene","clear","()V"⟩) : Cond) ∈ GW := tw1 (List.mem_of_getElem? (i := 184) rfl) rfl
theorem wd185 : ((Jvm.Cond.code ⟨"EchoGorge$Scene","clear","()V"⟩ prog_10_method_2_code 1 (Option.none : Option Jvm.ClassFile.FieldType)) : Cond) ∈ GW := tw1 (List.mem_of_getElem? (i := 185) rfl) rfl
theorem wd186 : ((Jvm.Cond.methodLink "EchoGorge$Scene" 30 ⟨"EchoGorge$Scene","clearSaid","()V"⟩) : Cond) ∈ GW := tw1 (List.mem_of_getElem? (i := 186) rfl) rfl
theorem wd187 : ((Jvm.Cond.instanceMethod ⟨"EchoGorge$Scene","clearSaid","()V"⟩) : Cond) ∈ GW := tw1 (List.mem_of_getElem? (i := 187) rfl) rfl
theorem wd188 : ((Jvm.Cond.selects "EchoGorge$Scene" ⟨"EchoGorge$Scene","clearSaid","()V"⟩ ⟨"EchoGorge$Scene","clearSaid","()V"⟩) : Cond) ∈ GW := tw1 (List.mem_of_getElem? (i := 188) rfl) rfl
theorem wd189 : ((Jvm.Cond.code ⟨"EchoGorge$Scene","clearSaid","()V"⟩ prog_10_method_3_code 1 (Option.none : Option Jvm.ClassFile.FieldType)) : Cond) ∈ GW := tw1 (List.mem_of_getElem? (i := 189) rfl) rfl
theorem wd190 : ((Jvm.Cond.methodLink "EchoGorge$Scene" 36 ⟨"java/util/Arrays","fill","([II)V"⟩) : Cond) ∈ GW := tw1 (List.mem_of_getElem? (i := 190) rfl) rfl
theorem wd191 : ((Jvm.Cond.methodLink "EchoGorge$Scene" 33 ⟨"EchoGorge$Scene","clearTold","()V"⟩) : Cond) ∈ GW := tw1 (List.mem_of_getElem? (i := 191) rfl) rfl
theorem wd192 : ((Jvm.Cond.instanceMethod ⟨"EchoGorge$Scene","clearTold","()V"⟩) : Cond) ∈ GW := tw1 (List.mem_of_getElem? (i := 192) rfl) rfl
theorem wd193 : ((Jvm.Cond.selects "EchoGorge$Scene" ⟨"EchoGorge$Scene","clearTold","()V"⟩ ⟨"EchoGorge$Scene","clearTold","()V"⟩) : Cond) ∈ GW := tw1 (List.mem_of_getElem? (i := 193) rfl) rfl
theorem wd194 : ((Jvm.Cond.code ⟨"EchoGorge$Scene","clearTold","()V"⟩ prog_10_method_4_code 1 (Option.none : Option Jvm.ClassFile.FieldType)) : Cond) ∈ GW := tw1 (List.mem_of_getElem? (i := 194) rfl) rfl
theorem wd195 : ((Jvm.Cond.fieldLink "EchoGorge$Scene" 9 "EchoGorge$Scene" "said" "[I") : Cond) ∈ GW := tw1 (List.mem_of_getElem? (i := 195) rfl) rfl
theorem wd196 : ((Jvm.Cond.fieldLink "EchoGorge$Guess" 71 "EchoGorge$Scene" "said" "[I") : Cond) ∈ GW := tw1 (List.mem_of_getElem? (i := 196) rfl) rfl
theorem wd197 : ((Jvm.Cond.fieldLink "EchoGorge" 204 "EchoGorge$Scene" "said" "[I") : Cond) ∈ GW := tw1 (List.mem_of_getElem? (i := 197) rfl) rfl
theorem wd198 : ((Jvm.Cond.fieldLink "EchoGorge$Scene" 46 "EchoGorge$Scene" "saidMany" "I") : Cond) ∈ GW := tw1 (List.mem_of_getElem? (i := 198) rfl) rfl
theorem wd199 : ((Jvm.Cond.fieldLink "EchoGorge" 147 "EchoGorge$Scene" "saidMany" "I") : Cond) ∈ GW := tw1 (List.mem_of_getElem? (i := 199) rfl) rfl
theorem wd200 : ((Jvm.Cond.fieldLink "EchoGorge$Scene" 15 "EchoGorge$Scene" "told" "[I") : Cond) ∈ GW := tw1 (List.mem_of_getElem? (i := 200) rfl) rfl
theorem wd201 : ((Jvm.Cond.fieldLink "EchoGorge$Truth" 51 "EchoGorge$Scene" "told" "[I") : Cond) ∈ GW := tw1 (List.mem_of_getElem? (i := 201) rfl) rfl
theorem wd202 : ((Jvm.Cond.fieldLink "EchoGorge$Guess" 90 "EchoGorge$Scene" "told" "[I") : Cond) ∈ GW := tw1 (List.mem_of_getElem? (i := 202) rfl) rfl
theorem wd203 : ((Jvm.Cond.fieldLink "EchoGorge" 270 "EchoGorge$Scene" "told" "[I") : Cond) ∈ GW := tw1 (List.mem_of_getElem? (i := 203) rfl) rfl
theorem wd204 : ((Jvm.Cond.fieldLink "EchoGorge$Scene" 49 "EchoGorge$Scene" "toldMany" "I") : Cond) ∈ GW := tw1 (List.mem_of_getElem? (i := 204) rfl) rfl
theorem wd205 : ((Jvm.Cond.fieldLink "EchoGorge" 150 "EchoGorge$Scene" "toldMany" "I") : Cond) ∈ GW := tw1 (List.mem_of_getElem? (i := 205) rfl) rfl
theorem wd206 : ((Jvm.Cond.fieldLink "EchoGorge$Scene" 18 "EchoGorge$Scene" "round" "[I") : Cond) ∈ GW := tw1 (List.mem_of_getElem? (i := 206) rfl) rfl
theorem wd207 : ((Jvm.Cond.fieldLink "EchoGorge$Chant" 53 "EchoGorge$Scene" "round" "[I") : Cond) ∈ GW := tw1 (List.mem_of_getElem? (i := 207) rfl) rfl
theorem wd208 : ((Jvm.Cond.fieldLink "EchoGorge" 256 "EchoGorge$Scene" "round" "[I") : Cond) ∈ GW := tw1 (List.mem_of_getElem? (i := 208) rfl) rfl
theorem wd209 : ((Jvm.Cond.fieldLink "EchoGorge$Scene" 42 "EchoGorge$Scene" "roundLength" "I") : Cond) ∈ GW := tw1 (List.mem_of_getElem? (i := 209) rfl) rfl
theorem wd210 : ((Jvm.Cond.fieldLink "EchoGorge$Chant" 23 "EchoGorge$Scene" "roundLength" "I") : Cond) ∈ GW := tw1 (List.mem_of_getElem? (i := 210) rfl) rfl
theorem wd211 : ((Jvm.Cond.fieldLink "EchoGorge" 259 "EchoGorge$Scene" "roundLength" "I") : Cond) ∈ GW := tw1 (List.mem_of_getElem? (i := 211) rfl) rfl
theorem wd212 : ((Jvm.Cond.fieldLink "EchoGorge$Scene" 21 "EchoGorge$Scene" "earX" "[I") : Cond) ∈ GW := tw1 (List.mem_of_getElem? (i := 212) rfl) rfl
theorem wd213 : ((Jvm.Cond.fieldLink "EchoGorge$Places" 29 "EchoGorge$Scene" "earX" "[I") : Cond) ∈ GW := tw1 (List.mem_of_getElem? (i := 213) rfl) rfl
theorem wd214 : ((Jvm.Cond.fieldLink "EchoGorge" 290 "EchoGorge$Scene" "earX" "[I") : Cond) ∈ GW := tw1 (List.mem_of_getElem? (i := 214) rfl) rfl
theorem wd215 : ((Jvm.Cond.fieldLink "EchoGorge$Scene" 24 "EchoGorge$Scene" "earY" "[I") : Cond) ∈ GW := tw1 (List.mem_of_getElem? (i := 215) rfl) rfl
theorem wd216 : ((Jvm.Cond.fieldLink "EchoGorge$Places" 18 "EchoGorge$Scene" "earY" "[I") : Cond) ∈ GW := tw1 (List.mem_of_getElem? (i := 216) rfl) rfl
theorem wd217 : ((Jvm.Cond.fieldLink "EchoGorge" 293 "EchoGorge$Scene" "earY" "[I") : Cond) ∈ GW := tw1 (List.mem_of_getElem? (i := 217) rfl) rfl
theorem wd241 : ((Jvm.Cond.fieldLink "EchoGorge$Reader" 9 "EchoGorge$Reader" "text" "[B") : Cond) ∈ GW := tw2 (List.mem_of_getElem? (i := 1) rfl) rfl
theorem wd242 : ((Jvm.Cond.fieldLink "EchoGorge$Reader" 21 "EchoGorge$Reader" "end" "I") : Cond) ∈ GW := tw2 (List.mem_of_getElem? (i := 2) rfl) rfl
theorem wd243 : ((Jvm.Cond.fieldLink "EchoGorge$Reader" 25 "EchoGorge$Reader" "gorge" "LEchoGorge$Gorge;") : Cond) ∈ GW := tw2 (List.mem_of_getElem? (i := 3) rfl) rfl
theorem wd244 : ((Jvm.Cond.fieldLink "EchoGorge$Reader" 56 "EchoGorge$Reader" "token" "I") : Cond) ∈ GW := tw2 (List.mem_of_getElem? (i := 4) rfl) rfl
theorem wd245 : ((Jvm.Cond.fieldLink "EchoGorge$Reader" 63 "EchoGorge$Reader" "place" "I") : Cond) ∈ GW := tw2 (List.mem_of_getElem? (i := 5) rfl) rfl
theorem wd246 : ((Jvm.Cond.fieldLink "EchoGorge$Reader" 34 "EchoGorge$Reader" "behind" "I") : Cond) ∈ GW := tw2 (List.mem_of_getElem? (i := 6) rfl) rfl
theorem wd247 : ((Jvm.Cond.fieldLink "EchoGorge$Reader" 66 "EchoGorge$Reader" "value" "I") : Cond) ∈ GW := tw2 (List.mem_of_getElem? (i := 7) rfl) rfl
theorem wd248 : ((Jvm.Cond.fieldLink "EchoGorge$Reader" 37 "EchoGorge$Reader" "airTold" "I") : Cond) ∈ GW := tw2 (List.mem_of_getElem? (i := 8) rfl) rfl
theorem wd249 : ((Jvm.Cond.fieldLink "EchoGorge$Reader" 40 "EchoGorge$Reader" "straightTold" "Z") : Cond) ∈ GW := tw2 (List.mem_of_getElem? (i := 9) rfl) rfl
theorem wd250 : ((Jvm.Cond.fieldLink "EchoGorge$Reader" 44 "EchoGorge$Reader" "maskTold" "Z") : Cond) ∈ GW := tw2 (List.mem_of_getElem? (i := 10) rfl) rfl
theorem wd251 : ((Jvm.Cond.fieldLink "EchoGorge$Reader" 47 "EchoGorge$Reader" "fault" "I") : Cond) ∈ GW := tw2 (List.mem_of_getElem? (i := 11) rfl) rfl
theorem wd252 : ((Jvm.Cond.fieldLink "EchoGorge$Reader" 50 "EchoGorge$Reader" "faultPlace" "I") : Cond) ∈ GW := tw2 (List.mem_of_getElem? (i := 12) rfl) rfl
theorem wd253 : ((Jvm.Cond.fieldLink "EchoGorge" 122 "EchoGorge$Reader" "faultPlace" "I") : Cond) ∈ GW := tw2 (List.mem_of_getElem? (i := 13) rfl) rfl
theorem wd285 : ((Jvm.Cond.fieldLink "EchoGorge$Returns" 11 "EchoGorge$Returns" "later" "[I") : Cond) ∈ GW := tw2 (List.mem_of_getElem? (i := 45) rfl) rfl
theorem wd286 : ((Jvm.Cond.fieldLink "EchoGorge$Hearing" 47 "EchoGorge$Returns" "later" "[I") : Cond) ∈ GW := tw2 (List.mem_of_getElem? (i := 46) rfl) rfl
theorem wd287 : ((Jvm.Cond.fieldLink "EchoGorge$Chant" 44 "EchoGorge$Returns" "later" "[I") : Cond) ∈ GW := tw2 (List.mem_of_getElem? (i := 47) rfl) rfl
theorem wd288 : ((Jvm.Cond.fieldLink "EchoGorge$Returns" 15 "EchoGorge$Returns" "loud" "[I") : Cond) ∈ GW := tw2 (List.mem_of_getElem? (i := 48) rfl) rfl
theorem wd289 : ((Jvm.Cond.fieldLink "EchoGorge$Hearing" 54 "EchoGorge$Returns" "loud" "[I") : Cond) ∈ GW := tw2 (List.mem_of_getElem? (i := 49) rfl) rfl
theorem wd290 : ((Jvm.Cond.fieldLink "EchoGorge$Chant" 56 "EchoGorge$Returns" "loud" "[I") : Cond) ∈ GW := tw2 (List.mem_of_getElem? (i := 50) rfl) rfl
theorem wd291 : ((Jvm.Cond.fieldLink "EchoGorge$Guess" 114 "EchoGorge$Returns" "loud" "[I") : Cond) ∈ GW := tw2 (List.mem_of_getElem? (i := 51) rfl) rfl
theorem wd292 : ((Jvm.Cond.fieldLink "EchoGorge$Hearing" 42 "EchoGorge$Returns" "many" "I") : Cond) ∈ GW := tw2 (List.mem_of_getElem? (i := 52) rfl) rfl
theorem wd293 : ((Jvm.Cond.fieldLink "EchoGorge$Returns" 38 "EchoGorge$Returns" "many" "I") : Cond) ∈ GW := tw2 (List.mem_of_getElem? (i := 53) rfl) rfl
theorem wd294 : ((Jvm.Cond.fieldLink "EchoGorge$Chant" 39 "EchoGorge$Returns" "many" "I") : Cond) ∈ GW := tw2 (List.mem_of_getElem? (i := 54) rfl) rfl
theorem wd295 : ((Jvm.Cond.fieldLink "EchoGorge$Returns" 18 "EchoGorge$Returns" "fading" "[I") : Cond) ∈ GW := tw2 (List.mem_of_getElem? (i := 55) rfl) rfl
theorem wd296 : ((Jvm.Cond.fieldLink "EchoGorge$Returns" 21 "EchoGorge$Returns" "isBuilt" "Z") : Cond) ∈ GW := tw2 (List.mem_of_getElem? (i := 56) rfl) rfl
theorem wd297 : ((Jvm.Cond.fieldLink "EchoGorge$Returns" 25 "EchoGorge$Returns" "builtEar" "I") : Cond) ∈ GW := tw2 (List.mem_of_getElem? (i := 57) rfl) rfl
theorem wd298 : ((Jvm.Cond.fieldLink "EchoGorge$Returns" 29 "EchoGorge$Returns" "builtAir" "I") : Cond) ∈ GW := tw2 (List.mem_of_getElem? (i := 58) rfl) rfl
theorem wd299 : ((Jvm.Cond.fieldLink "EchoGorge$Returns" 32 "EchoGorge$Returns" "builtFog" "I") : Cond) ∈ GW := tw2 (List.mem_of_getElem? (i := 59) rfl) rfl
theorem wd300 : ((Jvm.Cond.fieldLink "EchoGorge$Returns" 35 "EchoGorge$Returns" "builtGone" "I") : Cond) ∈ GW := tw2 (List.mem_of_getElem? (i := 60) rfl) rfl
theorem wd326 : ((Jvm.Cond.fieldLink "EchoGorge$Hearing" 9 "EchoGorge$Hearing" "best" "[I") : Cond) ∈ GW := tw2 (List.mem_of_getElem? (i := 86) rfl) rfl
theorem wd327 : ((Jvm.Cond.fieldLink "EchoGorge$Hearing" 15 "EchoGorge$Hearing" "whose" "[I") : Cond) ∈ GW := tw2 (List.mem_of_getElem? (i := 87) rfl) rfl
theorem wd328 : ((Jvm.Cond.fieldLink "EchoGorge$Hearing" 18 "EchoGorge$Hearing" "sum" "[I") : Cond) ∈ GW := tw2 (List.mem_of_getElem? (i := 88) rfl) rfl
theorem wd329 : ((Jvm.Cond.fieldLink "EchoGorge$Hearing" 21 "EchoGorge$Hearing" "gorge" "LEchoGorge$Gorge;") : Cond) ∈ GW := tw2 (List.mem_of_getElem? (i := 89) rfl) rfl
theorem wd330 : ((Jvm.Cond.fieldLink "EchoGorge$Hearing" 25 "EchoGorge$Hearing" "returns" "LEchoGorge$Returns;") : Cond) ∈ GW := tw2 (List.mem_of_getElem? (i := 90) rfl) rfl
theorem wd331 : ((Jvm.Cond.fieldLink "EchoGorge$Hearing" 29 "EchoGorge$Hearing" "said" "[I") : Cond) ∈ GW := tw2 (List.mem_of_getElem? (i := 91) rfl) rfl
theorem wd332 : ((Jvm.Cond.fieldLink "EchoGorge$Hearing" 32 "EchoGorge$Hearing" "last" "I") : Cond) ∈ GW := tw2 (List.mem_of_getElem? (i := 92) rfl) rfl
theorem wd333 : ((Jvm.Cond.fieldLink "EchoGorge$Hearing" 36 "EchoGorge$Hearing" "low" "I") : Cond) ∈ GW := tw2 (List.mem_of_getElem? (i := 93) rfl) rfl
theorem wd334 : ((Jvm.Cond.fieldLink "EchoGorge$Hearing" 39 "EchoGorge$Hearing" "high" "I") : Cond) ∈ GW := tw2 (List.mem_of_getElem? (i := 94) rfl) rfl
theorem wd362 : ((Jvm.Cond.methodLink "EchoGorge$Verses" 46 ⟨"java/util/Arrays","fill","([II)V"⟩) : Cond) ∈ GW := tw2 (List.mem_of_getElem? (i := 122) rfl) rfl
theorem wd363 : ((Jvm.Cond.fieldLink "EchoGorge$Verses" 14 "EchoGorge$Verses" "gorge" "LEchoGorge$Gorge;") : Cond) ∈ GW := tw2 (List.mem_of_getElem? (i := 123) rfl) rfl
theorem wd364 : ((Jvm.Cond.fieldLink "EchoGorge$Verses" 59 "EchoGorge$Verses" "total" "I") : Cond) ∈ GW := tw2 (List.mem_of_getElem? (i := 124) rfl) rfl
theorem wd365 : ((Jvm.Cond.fieldLink "EchoGorge" 153 "EchoGorge$Verses" "total" "I") : Cond) ∈ GW := tw2 (List.mem_of_getElem? (i := 125) rfl) rfl
theorem wd366 : ((Jvm.Cond.fieldLink "EchoGorge$Verses" 62 "EchoGorge$Verses" "beginnings" "I") : Cond) ∈ GW := tw2 (List.mem_of_getElem? (i := 126) rfl) rfl
theorem wd367 : ((Jvm.Cond.fieldLink "EchoGorge" 233 "EchoGorge$Verses" "beginnings" "I") : Cond) ∈ GW := tw2 (List.mem_of_getElem? (i := 127) rfl) rfl
theorem wd368 : ((Jvm.Cond.fieldLink "EchoGorge$Verses" 65 "EchoGorge$Verses" "lengths" "I") : Cond) ∈ GW := tw2 (List.mem_of_getElem? (i := 128) rfl) rfl
theorem wd369 : ((Jvm.Cond.fieldLink "EchoGorge$Verses" 75 "EchoGorge$Verses" "longest" "I") : Cond) ∈ GW := tw2 (List.mem_of_getElem? (i := 129) rfl) rfl
theorem wd370 : ((Jvm.Cond.fieldLink "EchoGorge$Verses" 18 "EchoGorge$Verses" "kindMany" "[I") : Cond) ∈ GW := tw2 (List.mem_of_getElem? (i := 130) rfl) rfl
theorem wd371 : ((Jvm.Cond.fieldLink "EchoGorge$Verses" 22 "EchoGorge$Verses" "ofKind" "[I") : Cond) ∈ GW := tw2 (List.mem_of_getElem? (i := 131) rfl) rfl
theorem wd372 : ((Jvm.Cond.fieldLink "EchoGorge$Verses" 25 "EchoGorge$Verses" "formLines" "[I") : Cond) ∈ GW := tw2 (List.mem_of_getElem? (i := 132) rfl) rfl
theorem wd373 : ((Jvm.Cond.fieldLink "EchoGorge$Verses" 28 "EchoGorge$Verses" "figures" "[I") : Cond) ∈ GW := tw2 (List.mem_of_getElem? (i := 133) rfl) rfl
theorem wd374 : ((Jvm.Cond.fieldLink "EchoGorge$Verses" 31 "EchoGorge$Verses" "answers" "[I") : Cond) ∈ GW := tw2 (List.mem_of_getElem? (i := 134) rfl) rfl
theorem wd375 : ((Jvm.Cond.fieldLink "EchoGorge$Verses" 34 "EchoGorge$Verses" "row" "[I") : Cond) ∈ GW := tw2 (List.mem_of_getElem? (i := 135) rfl) rfl
theorem wd376 : ((Jvm.Cond.fieldLink "EchoGorge$Verses" 37 "EchoGorge$Verses" "said" "[I") : Cond) ∈ GW := tw2 (List.mem_of_getElem? (i := 136) rfl) rfl
theorem wd377 : ((Jvm.Cond.fieldLink "EchoGorge$Verses" 93 "EchoGorge$Verses" "length" "I") : Cond) ∈ GW := tw2 (List.mem_of_getElem? (i := 137) rfl) rfl
theorem wd378 : ((Jvm.Cond.fieldLink "EchoGorge$Verses" 40 "EchoGorge$Verses" "heard" "[I") : Cond) ∈ GW := tw2 (List.mem_of_getElem? (i := 138) rfl) rfl
theorem wd379 : ((Jvm.Cond.fieldLink "EchoGorge$Verses" 98 "EchoGorge$Verses" "heardLength" "I") : Cond) ∈ GW := tw2 (List.mem_of_getElem? (i := 139) rfl) rfl
theorem wd380 : ((Jvm.Cond.fieldLink "EchoGorge$Verses" 43 "EchoGorge$Verses" "fits" "[I") : Cond) ∈ GW := tw2 (List.mem_of_getElem? (i := 140) rfl) rfl
theorem wd420 : ((Jvm.Cond.fieldLink "EchoGorge$Chant" 9 "EchoGorge$Chant" "sum" "[I") : Cond) ∈ GW := tw2 (List.mem_of_getElem? (i := 180) rfl) rfl
theorem wd432 : ((Jvm.Cond.fieldLink "EchoGorge$Guess" 9 "EchoGorge$Guess" "answer" "[I") : Cond) ∈ GW := tw2 (List.mem_of_getElem? (i := 192) rfl) rfl
theorem wd433 : ((Jvm.Cond.fieldLink "EchoGorge" 280 "EchoGorge$Guess" "answer" "[I") : Cond) ∈ GW := tw2 (List.mem_of_getElem? (i := 193) rfl) rfl
theorem wd434 : ((Jvm.Cond.fieldLink "EchoGorge$Guess" 18 "EchoGorge$Guess" "returns" "LEchoGorge$Returns;") : Cond) ∈ GW := tw2 (List.mem_of_getElem? (i := 194) rfl) rfl
theorem wd435 : ((Jvm.Cond.fieldLink "EchoGorge$Guess" 22 "EchoGorge$Guess" "isKnown" "Z") : Cond) ∈ GW := tw2 (List.mem_of_getElem? (i := 195) rfl) rfl
theorem wd436 : ((Jvm.Cond.fieldLink "EchoGorge$Guess" 26 "EchoGorge$Guess" "knownShare" "I") : Cond) ∈ GW := tw2 (List.mem_of_getElem? (i := 196) rfl) rfl
theorem wd437 : ((Jvm.Cond.fieldLink "EchoGorge$Guess" 98 "EchoGorge$Guess" "firstWalls" "I") : Cond) ∈ GW := tw2 (List.mem_of_getElem? (i := 197) rfl) rfl
theorem wd438 : ((Jvm.Cond.fieldLink "EchoGorge$Guess" 30 "EchoGorge$Guess" "muffled" "I") : Cond) ∈ GW := tw2 (List.mem_of_getElem? (i := 198) rfl) rfl
theorem wd439 : ((Jvm.Cond.fieldLink "EchoGorge$Guess" 104 "EchoGorge$Guess" "muffledRun" "I") : Cond) ∈ GW := tw2 (List.mem_of_getElem? (i := 199) rfl) rfl
theorem wd440 : ((Jvm.Cond.fieldLink "EchoGorge$Guess" 101 "EchoGorge$Guess" "muffledKey" "I") : Cond) ∈ GW := tw2 (List.mem_of_getElem? (i := 200) rfl) rfl
theorem wd464 : ((Jvm.Cond.fieldLink "EchoGorge$Truth" 9 "EchoGorge$Truth" "answer" "[I") : Cond) ∈ GW := tw2 (List.mem_of_getElem? (i := 224) rfl) rfl
theorem wd465 : ((Jvm.Cond.fieldLink "EchoGorge" 286 "EchoGorge$Truth" "answer" "[I") : Cond) ∈ GW := tw2 (List.mem_of_getElem? (i := 225) rfl) rfl
theorem wd466 : ((Jvm.Cond.fieldLink "EchoGorge$Truth" 21 "EchoGorge$Truth" "isKnown" "Z") : Cond) ∈ GW := tw2 (List.mem_of_getElem? (i := 226) rfl) rfl
theorem wd467 : ((Jvm.Cond.fieldLink "EchoGorge$Truth" 15 "EchoGorge$Truth" "said" "[I") : Cond) ∈ GW := tw2 (List.mem_of_getElem? (i := 227) rfl) rfl
theorem wd468 : ((Jvm.Cond.fieldLink "EchoGorge$Truth" 18 "EchoGorge$Truth" "spots" "[I") : Cond) ∈ GW := tw2 (List.mem_of_getElem? (i := 228) rfl) rfl
theorem wd469 : ((Jvm.Cond.fieldLink "EchoGorge$Truth" 47 "EchoGorge$Truth" "many" "I") : Cond) ∈ GW := tw2 (List.mem_of_getElem? (i := 229) rfl) rfl
theorem wd470 : ((Jvm.Cond.fieldLink "EchoGorge$Truth" 25 "EchoGorge$Truth" "gorge" "LEchoGorge$Gorge;") : Cond) ∈ GW := tw2 (List.mem_of_getElem? (i := 230) rfl) rfl
theorem wd471 : ((Jvm.Cond.fieldLink "EchoGorge$Truth" 29 "EchoGorge$Truth" "scene" "LEchoGorge$Scene;") : Cond) ∈ GW := tw2 (List.mem_of_getElem? (i := 231) rfl) rfl
theorem wd472 : ((Jvm.Cond.fieldLink "EchoGorge$Truth" 33 "EchoGorge$Truth" "hearing" "LEchoGorge$Hearing;") : Cond) ∈ GW := tw2 (List.mem_of_getElem? (i := 232) rfl) rfl
theorem wd473 : ((Jvm.Cond.fieldLink "EchoGorge$Truth" 37 "EchoGorge$Truth" "returns" "LEchoGorge$Returns;") : Cond) ∈ GW := tw2 (List.mem_of_getElem? (i := 233) rfl) rfl
theorem wd499 : ((Jvm.Cond.fieldLink "EchoGorge$Places" 9 "EchoGorge$Places" "ticks" "[I") : Cond) ∈ GW := tw3 (List.mem_of_getElem? (i := 19) rfl) rfl
theorem wd500 : ((Jvm.Cond.fieldLink "EchoGorge$Places" 15 "EchoGorge$Places" "ahead" "[I") : Cond) ∈ GW := tw3 (List.mem_of_getElem? (i := 20) rfl) rfl
theorem wd512 : ((Jvm.Cond.fieldLink "EchoGorge$Claps" 9 "EchoGorge$Claps" "together" "[I") : Cond) ∈ GW := tw3 (List.mem_of_getElem? (i := 32) rfl) rfl
theorem wd513 : ((Jvm.Cond.fieldLink "EchoGorge" 315 "EchoGorge$Claps" "together" "[I") : Cond) ∈ GW := tw3 (List.mem_of_getElem? (i := 33) rfl) rfl
theorem wd514 : ((Jvm.Cond.fieldLink "EchoGorge$Claps" 15 "EchoGorge$Claps" "said" "[I") : Cond) ∈ GW := tw3 (List.mem_of_getElem? (i := 34) rfl) rfl
theorem wd515 : ((Jvm.Cond.fieldLink "EchoGorge$Claps" 42 "EchoGorge$Claps" "best" "I") : Cond) ∈ GW := tw3 (List.mem_of_getElem? (i := 35) rfl) rfl
theorem wd516 : ((Jvm.Cond.fieldLink "EchoGorge$Claps" 46 "EchoGorge$Claps" "bestMany" "I") : Cond) ∈ GW := tw3 (List.mem_of_getElem? (i := 36) rfl) rfl
theorem wd517 : ((Jvm.Cond.fieldLink "EchoGorge$Claps" 49 "EchoGorge$Claps" "bestSum" "I") : Cond) ∈ GW := tw3 (List.mem_of_getElem? (i := 37) rfl) rfl
theorem wd529 : ((Jvm.Cond.fieldLink "EchoGorge" 9 "EchoGorge" "tape" "[B") : Cond) ∈ GW := tw3 (List.mem_of_getElem? (i := 49) rfl) rfl
theorem wd530 : ((Jvm.Cond.fieldLink "EchoGorge" 13 "EchoGorge" "taped" "I") : Cond) ∈ GW := tw3 (List.mem_of_getElem? (i := 50) rfl) rfl
theorem wd531 : ((Jvm.Cond.fieldLink "EchoGorge" 17 "EchoGorge" "faultPlace" "I") : Cond) ∈ GW := tw3 (List.mem_of_getElem? (i := 51) rfl) rfl
theorem wd532 : ((Jvm.Cond.fieldLink "EchoGorge" 20 "EchoGorge" "refused" "[I") : Cond) ∈ GW := tw3 (List.mem_of_getElem? (i := 52) rfl) rfl
theorem wd533 : ((Jvm.Cond.fieldLink "EchoGorge" 27 "EchoGorge" "now" "LEchoGorge$Gorge;") : Cond) ∈ GW := tw3 (List.mem_of_getElem? (i := 53) rfl) rfl
theorem wd534 : ((Jvm.Cond.fieldLink "EchoGorge" 31 "EchoGorge" "spare" "LEchoGorge$Gorge;") : Cond) ∈ GW := tw3 (List.mem_of_getElem? (i := 54) rfl) rfl
theorem wd535 : ((Jvm.Cond.fieldLink "EchoGorge" 37 "EchoGorge" "scene" "LEchoGorge$Scene;") : Cond) ∈ GW := tw3 (List.mem_of_getElem? (i := 55) rfl) rfl
theorem wd536 : ((Jvm.Cond.fieldLink "EchoGorge" 41 "EchoGorge" "kept" "LEchoGorge$Scene;") : Cond) ∈ GW := tw3 (List.mem_of_getElem? (i := 56) rfl) rfl
theorem wd537 : ((Jvm.Cond.fieldLink "EchoGorge" 44 "EchoGorge" "isKept" "Z") : Cond) ∈ GW := tw3 (List.mem_of_getElem? (i := 57) rfl) rfl
theorem wd538 : ((Jvm.Cond.fieldLink "EchoGorge" 51 "EchoGorge" "reader" "LEchoGorge$Reader;") : Cond) ∈ GW := tw3 (List.mem_of_getElem? (i := 58) rfl) rfl
theorem wd539 : ((Jvm.Cond.fieldLink "EchoGorge" 58 "EchoGorge" "returns" "LEchoGorge$Returns;") : Cond) ∈ GW := tw3 (List.mem_of_getElem? (i := 59) rfl) rfl
theorem wd540 : ((Jvm.Cond.fieldLink "EchoGorge" 65 "EchoGorge" "hearing" "LEchoGorge$Hearing;") : Cond) ∈ GW := tw3 (List.mem_of_getElem? (i := 60) rfl) rfl
theorem wd541 : ((Jvm.Cond.fieldLink "EchoGorge" 72 "EchoGorge" "verses" "LEchoGorge$Verses;") : Cond) ∈ GW := tw3 (List.mem_of_getElem? (i := 61) rfl) rfl
theorem wd542 : ((Jvm.Cond.fieldLink "EchoGorge" 79 "EchoGorge" "chant" "LEchoGorge$Chant;") : Cond) ∈ GW := tw3 (List.mem_of_getElem? (i := 62) rfl) rfl
theorem wd543 : ((Jvm.Cond.fieldLink "EchoGorge" 86 "EchoGorge" "guess" "LEchoGorge$Guess;") : Cond) ∈ GW := tw3 (List.mem_of_getElem? (i := 63) rfl) rfl
theorem wd544 : ((Jvm.Cond.fieldLink "EchoGorge" 93 "EchoGorge" "truth" "LEchoGorge$Truth;") : Cond) ∈ GW := tw3 (List.mem_of_getElem? (i := 64) rfl) rfl
theorem wd545 : ((Jvm.Cond.fieldLink "EchoGorge" 100 "EchoGorge" "places" "LEchoGorge$Places;") : Cond) ∈ GW := tw3 (List.mem_of_getElem? (i := 65) rfl) rfl
theorem wd546 : ((Jvm.Cond.fieldLink "EchoGorge" 107 "EchoGorge" "claps" "LEchoGorge$Claps;") : Cond) ∈ GW := tw3 (List.mem_of_getElem? (i := 66) rfl) rfl
theorem wd584 : ((Jvm.Cond.methodLink "EchoGorgeLaw" 86 ⟨"EchoGorge","feed","(IIIII)I"⟩) : Cond) ∈ GW := tw3 (List.mem_of_getElem? (i := 104) rfl) rfl
theorem wd585 : ((Jvm.Cond.instanceMethod ⟨"EchoGorge","feed","(IIIII)I"⟩) : Cond) ∈ GW := tw3 (List.mem_of_getElem? (i := 105) rfl) rfl
theorem wd586 : ((Jvm.Cond.selects "EchoGorge" ⟨"EchoGorge","feed","(IIIII)I"⟩ ⟨"EchoGorge","feed","(IIIII)I"⟩) : Cond) ∈ GW := tw3 (List.mem_of_getElem? (i := 106) rfl) rfl
theorem wd587 : ((Jvm.Cond.code ⟨"EchoGorge","feed","(IIIII)I"⟩ prog_1_method_2_code 6 (Option.some Jvm.ClassFile.FieldType.int)) : Cond) ∈ GW := tw3 (List.mem_of_getElem? (i := 107) rfl) rfl
theorem wd588 : ((Jvm.Cond.methodLink "EchoGorge" 111 ⟨"EchoGorge","tapeNumber","(I)V"⟩) : Cond) ∈ GW := tw3 (List.mem_of_getElem? (i := 108) rfl) rfl
theorem wd590 : ((Jvm.Cond.instanceMethod ⟨"EchoGorge","tapeNumber","(I)V"⟩) : Cond) ∈ GW := tw3 (List.mem_of_getElem? (i := 110) rfl) rfl
theorem wd591 : ((Jvm.Cond.code ⟨"EchoGorge","tapeNumber","(I)V"⟩ prog_1_method_3_code 3 (Option.none : Option Jvm.ClassFile.FieldType)) : Cond) ∈ GW := tw3 (List.mem_of_getElem? (i := 111) rfl) rfl
theorem wd592 : ((Jvm.Cond.methodLink "EchoGorgeLaw" 100 ⟨"EchoGorge","fault","()I"⟩) : Cond) ∈ GW := tw3 (List.mem_of_getElem? (i := 112) rfl) rfl
theorem wd593 : ((Jvm.Cond.instanceMethod ⟨"EchoGorge","fault","()I"⟩) : Cond) ∈ GW := tw3 (List.mem_of_getElem? (i := 113) rfl) rfl
theorem wd594 : ((Jvm.Cond.selects "EchoGorge" ⟨"EchoGorge","fault","()I"⟩ ⟨"EchoGorge","fault","()I"⟩) : Cond) ∈ GW := tw3 (List.mem_of_getElem? (i := 114) rfl) rfl
theorem wd595 : ((Jvm.Cond.code ⟨"EchoGorge","fault","()I"⟩ prog_1_method_5_code 1 (Option.some Jvm.ClassFile.FieldType.int)) : Cond) ∈ GW := tw3 (List.mem_of_getElem? (i := 115) rfl) rfl
theorem wd596 : ((Jvm.Cond.methodLink "EchoGorgeLaw" 117 ⟨"EchoGorge","hush","()I"⟩) : Cond) ∈ GW := tw3 (List.mem_of_getElem? (i := 116) rfl) rfl
theorem wd597 : ((Jvm.Cond.instanceMethod ⟨"EchoGorge","hush","()I"⟩) : Cond) ∈ GW := tw3 (List.mem_of_getElem? (i := 117) rfl) rfl
theorem wd598 : ((Jvm.Cond.selects "EchoGorge" ⟨"EchoGorge","hush","()I"⟩ ⟨"EchoGorge","hush","()I"⟩) : Cond) ∈ GW := tw3 (List.mem_of_getElem? (i := 118) rfl) rfl
theorem wd599 : ((Jvm.Cond.code ⟨"EchoGorge","hush","()I"⟩ prog_1_method_10_code 2 (Option.some Jvm.ClassFile.FieldType.int)) : Cond) ∈ GW := tw3 (List.mem_of_getElem? (i := 119) rfl) rfl
theorem wd600 : ((Jvm.Cond.methodLink "EchoGorge" 190 ⟨"EchoGorge$Scene","clearSaid","()V"⟩) : Cond) ∈ GW := tw3 (List.mem_of_getElem? (i := 120) rfl) rfl
theorem wd601 : ((Jvm.Cond.methodLink "EchoGorge" 133 ⟨"EchoGorge$Guess","forget","()V"⟩) : Cond) ∈ GW := tw3 (List.mem_of_getElem? (i := 121) rfl) rfl
theorem wd602 : ((Jvm.Cond.instanceMethod ⟨"EchoGorge$Guess","forget","()V"⟩) : Cond) ∈ GW := tw3 (List.mem_of_getElem? (i := 122) rfl) rfl
theorem wd603 : ((Jvm.Cond.selects "EchoGorge$Guess" ⟨"EchoGorge$Guess","forget","()V"⟩ ⟨"EchoGorge$Guess","forget","()V"⟩) : Cond) ∈ GW := tw3 (List.mem_of_getElem? (i := 123) rfl) rfl
theorem wd604 : ((Jvm.Cond.code ⟨"EchoGorge$Guess","forget","()V"⟩ prog_5_method_2_code 1 (Option.none : Option Jvm.ClassFile.FieldType)) : Cond) ∈ GW := tw3 (List.mem_of_getElem? (i := 124) rfl) rfl
theorem wd605 : ((Jvm.Cond.methodLink "EchoGorgeLaw" 153 ⟨"EchoGorge","untell","()I"⟩) : Cond) ∈ GW := tw3 (List.mem_of_getElem? (i := 125) rfl) rfl
theorem wd606 : ((Jvm.Cond.instanceMethod ⟨"EchoGorge","untell","()I"⟩) : Cond) ∈ GW := tw3 (List.mem_of_getElem? (i := 126) rfl) rfl
theorem wd607 : ((Jvm.Cond.selects "EchoGorge" ⟨"EchoGorge","untell","()I"⟩ ⟨"EchoGorge","untell","()I"⟩) : Cond) ∈ GW := tw3 (List.mem_of_getElem? (i := 127) rfl) rfl
theorem wd608 : ((Jvm.Cond.code ⟨"EchoGorge","untell","()I"⟩ prog_1_method_21_code 2 (Option.some Jvm.ClassFile.FieldType.int)) : Cond) ∈ GW := tw3 (List.mem_of_getElem? (i := 128) rfl) rfl
theorem wd609 : ((Jvm.Cond.methodLink "EchoGorge" 273 ⟨"EchoGorge$Scene","clearTold","()V"⟩) : Cond) ∈ GW := tw3 (List.mem_of_getElem? (i := 129) rfl) rfl
theorem wd610 : ((Jvm.Cond.methodLink "EchoGorge" 134 ⟨"EchoGorge$Truth","forget","()V"⟩) : Cond) ∈ GW := tw3 (List.mem_of_getElem? (i := 130) rfl) rfl
theorem wd611 : ((Jvm.Cond.instanceMethod ⟨"EchoGorge$Truth","forget","()V"⟩) : Cond) ∈ GW := tw3 (List.mem_of_getElem? (i := 131) rfl) rfl
theorem wd612 : ((Jvm.Cond.selects "EchoGorge$Truth" ⟨"EchoGorge$Truth","forget","()V"⟩ ⟨"EchoGorge$Truth","forget","()V"⟩) : Cond) ∈ GW := tw3 (List.mem_of_getElem? (i := 132) rfl) rfl
theorem wd613 : ((Jvm.Cond.code ⟨"EchoGorge$Truth","forget","()V"⟩ prog_11_method_2_code 1 (Option.none : Option Jvm.ClassFile.FieldType)) : Cond) ∈ GW := tw3 (List.mem_of_getElem? (i := 133) rfl) rfl
theorem wd614 : ((Jvm.Cond.methodLink "EchoGorgeLaw" 176 ⟨"EchoGorge","image","()V"⟩) : Cond) ∈ GW := tw3 (List.mem_of_getElem? (i := 134) rfl) rfl
theorem wd615 : ((Jvm.Cond.instanceMethod ⟨"EchoGorge","image","()V"⟩) : Cond) ∈ GW := tw3 (List.mem_of_getElem? (i := 135) rfl) rfl
theorem wd616 : ((Jvm.Cond.selects "EchoGorge" ⟨"EchoGorge","image","()V"⟩ ⟨"EchoGorge","image","()V"⟩) : Cond) ∈ GW := tw3 (List.mem_of_getElem? (i := 136) rfl) rfl
theorem wd617 : ((Jvm.Cond.code ⟨"EchoGorge","image","()V"⟩ prog_1_method_28_code 1 (Option.none : Option Jvm.ClassFile.FieldType)) : Cond) ∈ GW := tw3 (List.mem_of_getElem? (i := 137) rfl) rfl
theorem wd618 : ((Jvm.Cond.methodLink "EchoGorge" 327 ⟨"EchoGorge$Scene","copy","(LEchoGorge$Scene;)V"⟩) : Cond) ∈ GW := tw3 (List.mem_of_getElem? (i := 138) rfl) rfl
theorem wd619 : ((Jvm.Cond.instanceMethod ⟨"EchoGorge$Scene","copy","(LEchoGorge$Scene;)V"⟩) : Cond) ∈ GW := tw3 (List.mem_of_getElem? (i := 139) rfl) rfl
theorem wd620 : ((Jvm.Cond.selects "EchoGorge$Scene" ⟨"EchoGorge$Scene","copy","(LEchoGorge$Scene;)V"⟩ ⟨"EchoGorge$Scene","copy","(LEchoGorge$Scene;)V"⟩) : Cond) ∈ GW := tw3 (List.mem_of_getElem? (i := 140) rfl) rfl
theorem wd621 : ((Jvm.Cond.code ⟨"EchoGorge$Scene","copy","(LEchoGorge$Scene;)V"⟩ prog_10_method_6_code 2 (Option.none : Option Jvm.ClassFile.FieldType)) : Cond) ∈ GW := tw3 (List.mem_of_getElem? (i := 141) rfl) rfl
theorem wd622 : ((Jvm.Cond.methodLink "EchoGorge$Scene" 52 ⟨"java/lang/System","arraycopy","(Ljava/lang/Object;ILjava/lang/Object;II)V"⟩) : Cond) ∈ GW := tw3 (List.mem_of_getElem? (i := 142) rfl) rfl
theorem wd623 : ((Jvm.Cond.static ⟨"java/lang/System","arraycopy","(Ljava/lang/Object;ILjava/lang/Object;II)V"⟩) : Cond) ∈ GW := tw3 (List.mem_of_getElem? (i := 143) rfl) rfl
theorem wd624 : ((Jvm.Cond.native ⟨"java/lang/System","arraycopy","(Ljava/lang/Object;ILjava/lang/Object;II)V"⟩) : Cond) ∈ GW := tw3 (List.mem_of_getElem? (i := 144) rfl) rfl
theorem wd625 : ((Jvm.Cond.methodLink "EchoGorgeLaw" 180 ⟨"EchoGorge","restore","()Z"⟩) : Cond) ∈ GW := tw3 (List.mem_of_getElem? (i := 145) rfl) rfl
theorem wd626 : ((Jvm.Cond.instanceMethod ⟨"EchoGorge","restore","()Z"⟩) : Cond) ∈ GW := tw3 (List.mem_of_getElem? (i := 146) rfl) rfl
theorem wd627 : ((Jvm.Cond.selects "EchoGorge" ⟨"EchoGorge","restore","()Z"⟩ ⟨"EchoGorge","restore","()Z"⟩) : Cond) ∈ GW := tw3 (List.mem_of_getElem? (i := 147) rfl) rfl
theorem wd628 : ((Jvm.Cond.code ⟨"EchoGorge","restore","()Z"⟩ prog_1_method_29_code 1 (Option.some Jvm.ClassFile.FieldType.boolean)) : Cond) ∈ GW := tw3 (List.mem_of_getElem? (i := 148) rfl) rfl
theorem wd629 : ((Jvm.Cond.methodLink "EchoGorgeLaw" 90 ⟨"EchoGorgeLaw","gorge","(LEchoGorge;I[J)I"⟩) : Cond) ∈ GW := tw3 (List.mem_of_getElem? (i := 149) rfl) rfl
theorem wd630 : ((Jvm.Cond.static ⟨"EchoGorgeLaw","gorge","(LEchoGorge;I[J)I"⟩) : Cond) ∈ GW := tw3 (List.mem_of_getElem? (i := 150) rfl) rfl
theorem wd631 : ((Jvm.Cond.codeWith ⟨"EchoGorgeLaw","gorge","(LEchoGorge;I[J)I"⟩ method_3_code 4 (Option.some Jvm.ClassFile.FieldType.int) [(0, 9, 12, 13)]) : Cond) ∈ GW := tw3 (List.mem_of_getElem? (i := 151) rfl) rfl
theorem wd633 : ((Jvm.Cond.methodLink "EchoGorgeLaw" 7 ⟨"EchoGorge","gorge","(I)I"⟩) : Cond) ∈ GW := tw3 (List.mem_of_getElem? (i := 153) rfl) rfl
theorem wd634 : ((Jvm.Cond.instanceMethod ⟨"EchoGorge","gorge","(I)I"⟩) : Cond) ∈ GW := tw3 (List.mem_of_getElem? (i := 154) rfl) rfl
theorem wd635 : ((Jvm.Cond.selects "EchoGorge" ⟨"EchoGorge","gorge","(I)I"⟩ ⟨"EchoGorge","gorge","(I)I"⟩) : Cond) ∈ GW := tw3 (List.mem_of_getElem? (i := 155) rfl) rfl
theorem wd636 : ((Jvm.Cond.code ⟨"EchoGorge","gorge","(I)I"⟩ prog_1_method_4_code 4 (Option.some Jvm.ClassFile.FieldType.int)) : Cond) ∈ GW := tw3 (List.mem_of_getElem? (i := 156) rfl) rfl
theorem wd637 : ((Jvm.Cond.classLink "EchoGorge" 115 "java/lang/IllegalArgumentException") : Cond) ∈ GW := tw3 (List.mem_of_getElem? (i := 157) rfl) rfl
theorem wd699 : ((Jvm.Cond.methodLink "EchoGorge" 118 ⟨"EchoGorge$Reader","read","([BILEchoGorge$Gorge;)I"⟩) : Cond) ∈ GW := tw3 (List.mem_of_getElem? (i := 219) rfl) rfl
theorem wd700 : ((Jvm.Cond.instanceMethod ⟨"EchoGorge$Reader","read","([BILEchoGorge$Gorge;)I"⟩) : Cond) ∈ GW := tw3 (List.mem_of_getElem? (i := 220) rfl) rfl
theorem wd701 : ((Jvm.Cond.selects "EchoGorge$Reader" ⟨"EchoGorge$Reader","read","([BILEchoGorge$Gorge;)I"⟩ ⟨"EchoGorge$Reader","read","([BILEchoGorge$Gorge;)I"⟩) : Cond) ∈ GW := tw3 (List.mem_of_getElem? (i := 221) rfl) rfl
theorem wd702 : ((Jvm.Cond.code ⟨"EchoGorge$Reader","read","([BILEchoGorge$Gorge;)I"⟩ prog_8_method_2_code 6 (Option.some Jvm.ClassFile.FieldType.int)) : Cond) ∈ GW := tw3 (List.mem_of_getElem? (i := 222) rfl) rfl
theorem wd703 : ((Jvm.Cond.methodLink "EchoGorge$Reader" 15 ⟨"java/lang/Math","min","(II)I"⟩) : Cond) ∈ GW := tw3 (List.mem_of_getElem? (i := 223) rfl) rfl
theorem wd704 : ((Jvm.Cond.static ⟨"java/lang/Math","min","(II)I"⟩) : Cond) ∈ GW := tw3 (List.mem_of_getElem? (i := 224) rfl) rfl
theorem wd705 : (Cond.code Lib.Math.min.name Lib.Math.min.code 2 (some .int) : Cond) ∈ GW := tw3 (List.mem_of_getElem? (i := 225) rfl) rfl
theorem wd706 : ((Jvm.Cond.methodLink "EchoGorge$Reader" 29 ⟨"EchoGorge$Gorge","clear","()V"⟩) : Cond) ∈ GW := tw3 (List.mem_of_getElem? (i := 226) rfl) rfl
theorem wd707 : ((Jvm.Cond.methodLink "EchoGorge$Reader" 53 ⟨"EchoGorge$Reader","step","()V"⟩) : Cond) ∈ GW := tw3 (List.mem_of_getElem? (i := 227) rfl) rfl
theorem wd709 : ((Jvm.Cond.instanceMethod ⟨"EchoGorge$Reader","step","()V"⟩) : Cond) ∈ GW := tw3 (List.mem_of_getElem? (i := 229) rfl) rfl
theorem wd710 : ((Jvm.Cond.code ⟨"EchoGorge$Reader","step","()V"⟩ prog_8_method_4_code 1 (Option.none : Option Jvm.ClassFile.FieldType)) : Cond) ∈ GW := tw3 (List.mem_of_getElem? (i := 230) rfl) rfl
theorem wd711 : ((Jvm.Cond.methodLink "EchoGorge$Reader" 69 ⟨"EchoGorge$Reader","isLetter","(B)Z"⟩) : Cond) ∈ GW := tw3 (List.mem_of_getElem? (i := 231) rfl) rfl
theorem wd712 : ((Jvm.Cond.static ⟨"EchoGorge$Reader","isLetter","(B)Z"⟩) : Cond) ∈ GW := tw3 (List.mem_of_getElem? (i := 232) rfl) rfl
theorem wd713 : ((Jvm.Cond.code ⟨"EchoGorge$Reader","isLetter","(B)Z"⟩ prog_8_method_5_code 1 (Option.some Jvm.ClassFile.FieldType.boolean)) : Cond) ∈ GW := tw3 (List.mem_of_getElem? (i := 233) rfl) rfl
theorem wd714 : ((Jvm.Cond.methodLink "EchoGorge$Reader" 73 ⟨"EchoGorge$Reader","isDigit","(B)Z"⟩) : Cond) ∈ GW := tw3 (List.mem_of_getElem? (i := 234) rfl) rfl
theorem wd715 : ((Jvm.Cond.static ⟨"EchoGorge$Reader","isDigit","(B)Z"⟩) : Cond) ∈ GW := tw3 (List.mem_of_getElem? (i := 235) rfl) rfl
theorem wd716 : ((Jvm.Cond.code ⟨"EchoGorge$Reader","isDigit","(B)Z"⟩ prog_8_method_6_code 1 (Option.some Jvm.ClassFile.FieldType.boolean)) : Cond) ∈ GW := tw3 (List.mem_of_getElem? (i := 236) rfl) rfl
theorem wd717 : ((Jvm.Cond.methodLink "EchoGorge$Reader" 59 ⟨"EchoGorge$Reader","readLine","()Z"⟩) : Cond) ∈ GW := tw3 (List.mem_of_getElem? (i := 237) rfl) rfl
theorem wd719 : ((Jvm.Cond.instanceMethod ⟨"EchoGorge$Reader","readLine","()Z"⟩) : Cond) ∈ GW := tw3 (List.mem_of_getElem? (i := 239) rfl) rfl
theorem wd720 : ((Jvm.Cond.code ⟨"EchoGorge$Reader","readLine","()Z"⟩ prog_8_method_10_code 1 (Option.some Jvm.ClassFile.FieldType.boolean)) : Cond) ∈ GW := tw4 (List.mem_of_getElem? (i := 0) rfl) rfl
theorem wd722 : ((Jvm.Cond.methodLink "EchoGorge$Reader" 99 ⟨"EchoGorge$Reader","spells","(Ljava/lang/String;)Z"⟩) : Cond) ∈ GW := tw4 (List.mem_of_getElem? (i := 2) rfl) rfl
theorem wd724 : ((Jvm.Cond.instanceMethod ⟨"EchoGorge$Reader","spells","(Ljava/lang/String;)Z"⟩) : Cond) ∈ GW := tw4 (List.mem_of_getElem? (i := 4) rfl) rfl
theorem wd725 : ((Jvm.Cond.code ⟨"EchoGorge$Reader","spells","(Ljava/lang/String;)Z"⟩ prog_8_method_7_code 3 (Option.some Jvm.ClassFile.FieldType.boolean)) : Cond) ∈ GW := tw4 (List.mem_of_getElem? (i := 5) rfl) rfl
theorem wd774 : ((Jvm.Cond.methodLink "EchoGorge$Reader" 103 ⟨"EchoGorge$Reader","readSound","()Z"⟩) : Cond) ∈ GW := tw4 (List.mem_of_getElem? (i := 54) rfl) rfl
theorem wd776 : ((Jvm.Cond.instanceMethod ⟨"EchoGorge$Reader","readSound","()Z"⟩) : Cond) ∈ GW := tw4 (List.mem_of_getElem? (i := 56) rfl) rfl
theorem wd777 : ((Jvm.Cond.code ⟨"EchoGorge$Reader","readSound","()Z"⟩ prog_8_method_12_code 2 (Option.some Jvm.ClassFile.FieldType.boolean)) : Cond) ∈ GW := tw4 (List.mem_of_getElem? (i := 57) rfl) rfl
theorem wd778 : ((Jvm.Cond.methodLink "EchoGorge$Reader" 86 ⟨"EchoGorge$Reader","fail","(I)Z"⟩) : Cond) ∈ GW := tw4 (List.mem_of_getElem? (i := 58) rfl) rfl
theorem wd780 : ((Jvm.Cond.instanceMethod ⟨"EchoGorge$Reader","fail","(I)Z"⟩) : Cond) ∈ GW := tw4 (List.mem_of_getElem? (i := 60) rfl) rfl
theorem wd781 : ((Jvm.Cond.code ⟨"EchoGorge$Reader","fail","(I)Z"⟩ prog_8_method_3_code 2 (Option.some Jvm.ClassFile.FieldType.boolean)) : Cond) ∈ GW := tw4 (List.mem_of_getElem? (i := 61) rfl) rfl
theorem wd782 : ((Jvm.Cond.methodLink "EchoGorge$Reader" 90 ⟨"EchoGorge$Reader","isNumber","(II)Z"⟩) : Cond) ∈ GW := tw4 (List.mem_of_getElem? (i := 62) rfl) rfl
theorem wd784 : ((Jvm.Cond.instanceMethod ⟨"EchoGorge$Reader","isNumber","(II)Z"⟩) : Cond) ∈ GW := tw4 (List.mem_of_getElem? (i := 64) rfl) rfl
theorem wd785 : ((Jvm.Cond.code ⟨"EchoGorge$Reader","isNumber","(II)Z"⟩ prog_8_method_8_code 3 (Option.some Jvm.ClassFile.FieldType.boolean)) : Cond) ∈ GW := tw4 (List.mem_of_getElem? (i := 65) rfl) rfl
theorem wd786 : ((Jvm.Cond.methodLink "EchoGorge$Reader" 148 ⟨"EchoGorge$Reader","readEnd","()Z"⟩) : Cond) ∈ GW := tw4 (List.mem_of_getElem? (i := 66) rfl) rfl
theorem wd788 : ((Jvm.Cond.instanceMethod ⟨"EchoGorge$Reader","readEnd","()Z"⟩) : Cond) ∈ GW := tw4 (List.mem_of_getElem? (i := 68) rfl) rfl
theorem wd789 : ((Jvm.Cond.code ⟨"EchoGorge$Reader","readEnd","()Z"⟩ prog_8_method_11_code 1 (Option.some Jvm.ClassFile.FieldType.boolean)) : Cond) ∈ GW := tw4 (List.mem_of_getElem? (i := 69) rfl) rfl
theorem wd791 : ((Jvm.Cond.methodLink "EchoGorge$Reader" 108 ⟨"EchoGorge$Reader","readWall","()Z"⟩) : Cond) ∈ GW := tw4 (List.mem_of_getElem? (i := 71) rfl) rfl
theorem wd793 : ((Jvm.Cond.instanceMethod ⟨"EchoGorge$Reader","readWall","()Z"⟩) : Cond) ∈ GW := tw4 (List.mem_of_getElem? (i := 73) rfl) rfl
theorem wd794 : ((Jvm.Cond.code ⟨"EchoGorge$Reader","readWall","()Z"⟩ prog_8_method_13_code 3 (Option.some Jvm.ClassFile.FieldType.boolean)) : Cond) ∈ GW := tw4 (List.mem_of_getElem? (i := 74) rfl) rfl
theorem wd796 : ((Jvm.Cond.methodLink "EchoGorge$Reader" 167 ⟨"EchoGorge$Reader","readSwallows","(I)Z"⟩) : Cond) ∈ GW := tw4 (List.mem_of_getElem? (i := 76) rfl) rfl
theorem wd798 : ((Jvm.Cond.instanceMethod ⟨"EchoGorge$Reader","readSwallows","(I)Z"⟩) : Cond) ∈ GW := tw4 (List.mem_of_getElem? (i := 78) rfl) rfl
theorem wd799 : ((Jvm.Cond.code ⟨"EchoGorge$Reader","readSwallows","(I)Z"⟩ prog_8_method_14_code 3 (Option.some Jvm.ClassFile.FieldType.boolean)) : Cond) ∈ GW := tw4 (List.mem_of_getElem? (i := 79) rfl) rfl
theorem wd801 : ((Jvm.Cond.methodLink "EchoGorge$Reader" 171 ⟨"EchoGorge$Reader","readAgain","(I)Z"⟩) : Cond) ∈ GW := tw4 (List.mem_of_getElem? (i := 81) rfl) rfl
theorem wd803 : ((Jvm.Cond.instanceMethod ⟨"EchoGorge$Reader","readAgain","(I)Z"⟩) : Cond) ∈ GW := tw4 (List.mem_of_getElem? (i := 83) rfl) rfl
theorem wd804 : ((Jvm.Cond.code ⟨"EchoGorge$Reader","readAgain","(I)Z"⟩ prog_8_method_15_code 2 (Option.some Jvm.ClassFile.FieldType.boolean)) : Cond) ∈ GW := tw4 (List.mem_of_getElem? (i := 84) rfl) rfl
theorem wd806 : ((Jvm.Cond.methodLink "EchoGorge$Reader" 113 ⟨"EchoGorge$Reader","readStraight","()Z"⟩) : Cond) ∈ GW := tw4 (List.mem_of_getElem? (i := 86) rfl) rfl
theorem wd808 : ((Jvm.Cond.instanceMethod ⟨"EchoGorge$Reader","readStraight","()Z"⟩) : Cond) ∈ GW := tw4 (List.mem_of_getElem? (i := 88) rfl) rfl
theorem wd809 : ((Jvm.Cond.code ⟨"EchoGorge$Reader","readStraight","()Z"⟩ prog_8_method_16_code 2 (Option.some Jvm.ClassFile.FieldType.boolean)) : Cond) ∈ GW := tw4 (List.mem_of_getElem? (i := 89) rfl) rfl
theorem wd811 : ((Jvm.Cond.methodLink "EchoGorge$Reader" 118 ⟨"EchoGorge$Reader","readAir","()Z"⟩) : Cond) ∈ GW := tw4 (List.mem_of_getElem? (i := 91) rfl) rfl
theorem wd813 : ((Jvm.Cond.instanceMethod ⟨"EchoGorge$Reader","readAir","()Z"⟩) : Cond) ∈ GW := tw4 (List.mem_of_getElem? (i := 93) rfl) rfl
theorem wd814 : ((Jvm.Cond.code ⟨"EchoGorge$Reader","readAir","()Z"⟩ prog_8_method_17_code 2 (Option.some Jvm.ClassFile.FieldType.boolean)) : Cond) ∈ GW := tw4 (List.mem_of_getElem? (i := 94) rfl) rfl
theorem wd816 : ((Jvm.Cond.methodLink "EchoGorge$Reader" 123 ⟨"EchoGorge$Reader","readMask","()Z"⟩) : Cond) ∈ GW := tw4 (List.mem_of_getElem? (i := 96) rfl) rfl
theorem wd818 : ((Jvm.Cond.instanceMethod ⟨"EchoGorge$Reader","readMask","()Z"⟩) : Cond) ∈ GW := tw4 (List.mem_of_getElem? (i := 98) rfl) rfl
theorem wd819 : ((Jvm.Cond.code ⟨"EchoGorge$Reader","readMask","()Z"⟩ prog_8_method_18_code 1 (Option.some Jvm.ClassFile.FieldType.boolean)) : Cond) ∈ GW := tw4 (List.mem_of_getElem? (i := 99) rfl) rfl
theorem wd821 : ((Jvm.Cond.methodLink "EchoGorge$Reader" 128 ⟨"EchoGorge$Reader","readSweet","()Z"⟩) : Cond) ∈ GW := tw4 (List.mem_of_getElem? (i := 101) rfl) rfl
theorem wd823 : ((Jvm.Cond.instanceMethod ⟨"EchoGorge$Reader","readSweet","()Z"⟩) : Cond) ∈ GW := tw4 (List.mem_of_getElem? (i := 103) rfl) rfl
theorem wd824 : ((Jvm.Cond.code ⟨"EchoGorge$Reader","readSweet","()Z"⟩ prog_8_method_19_code 3 (Option.some Jvm.ClassFile.FieldType.boolean)) : Cond) ∈ GW := tw4 (List.mem_of_getElem? (i := 104) rfl) rfl
theorem wd825 : ((Jvm.Cond.methodLink "EchoGorge$Reader" 187 ⟨"EchoGorge$Reader","isToldSound","()Z"⟩) : Cond) ∈ GW := tw4 (List.mem_of_getElem? (i := 105) rfl) rfl
theorem wd827 : ((Jvm.Cond.instanceMethod ⟨"EchoGorge$Reader","isToldSound","()Z"⟩) : Cond) ∈ GW := tw4 (List.mem_of_getElem? (i := 107) rfl) rfl
theorem wd828 : ((Jvm.Cond.code ⟨"EchoGorge$Reader","isToldSound","()Z"⟩ prog_8_method_9_code 1 (Option.some Jvm.ClassFile.FieldType.boolean)) : Cond) ∈ GW := tw4 (List.mem_of_getElem? (i := 108) rfl) rfl
theorem wd830 : ((Jvm.Cond.methodLink "EchoGorge$Reader" 133 ⟨"EchoGorge$Reader","readWord","()Z"⟩) : Cond) ∈ GW := tw4 (List.mem_of_getElem? (i := 110) rfl) rfl
theorem wd832 : ((Jvm.Cond.instanceMethod ⟨"EchoGorge$Reader","readWord","()Z"⟩) : Cond) ∈ GW := tw4 (List.mem_of_getElem? (i := 112) rfl) rfl
theorem wd833 : ((Jvm.Cond.code ⟨"EchoGorge$Reader","readWord","()Z"⟩ prog_8_method_20_code 3 (Option.some Jvm.ClassFile.FieldType.boolean)) : Cond) ∈ GW := tw4 (List.mem_of_getElem? (i := 113) rfl) rfl
theorem wd835 : ((Jvm.Cond.methodLink "EchoGorge$Reader" 138 ⟨"EchoGorge$Reader","readForm","()Z"⟩) : Cond) ∈ GW := tw4 (List.mem_of_getElem? (i := 115) rfl) rfl
theorem wd837 : ((Jvm.Cond.instanceMethod ⟨"EchoGorge$Reader","readForm","()Z"⟩) : Cond) ∈ GW := tw4 (List.mem_of_getElem? (i := 117) rfl) rfl
theorem wd838 : ((Jvm.Cond.code ⟨"EchoGorge$Reader","readForm","()Z"⟩ prog_8_method_21_code 3 (Option.some Jvm.ClassFile.FieldType.boolean)) : Cond) ∈ GW := tw4 (List.mem_of_getElem? (i := 118) rfl) rfl
theorem wd839 : ((Jvm.Cond.methodLink "EchoGorge" 123 ⟨"EchoGorge$Scene","clear","()V"⟩) : Cond) ∈ GW := tw4 (List.mem_of_getElem? (i := 119) rfl) rfl
theorem wd840 : ((Jvm.Cond.methodLink "EchoGorge" 126 ⟨"EchoGorge$Returns","forget","()V"⟩) : Cond) ∈ GW := tw4 (List.mem_of_getElem? (i := 120) rfl) rfl
theorem wd841 : ((Jvm.Cond.instanceMethod ⟨"EchoGorge$Returns","forget","()V"⟩) : Cond) ∈ GW := tw4 (List.mem_of_getElem? (i := 121) rfl) rfl
theorem wd842 : ((Jvm.Cond.selects "EchoGorge$Returns" ⟨"EchoGorge$Returns","forget","()V"⟩ ⟨"EchoGorge$Returns","forget","()V"⟩) : Cond) ∈ GW := tw4 (List.mem_of_getElem? (i := 122) rfl) rfl
theorem wd843 : ((Jvm.Cond.code ⟨"EchoGorge$Returns","forget","()V"⟩ prog_9_method_2_code 1 (Option.none : Option Jvm.ClassFile.FieldType)) : Cond) ∈ GW := tw4 (List.mem_of_getElem? (i := 123) rfl) rfl
theorem wd844 : ((Jvm.Cond.methodLink "EchoGorge" 129 ⟨"EchoGorge$Verses","adopt","(LEchoGorge$Gorge;)V"⟩) : Cond) ∈ GW := tw4 (List.mem_of_getElem? (i := 124) rfl) rfl
theorem wd845 : ((Jvm.Cond.instanceMethod ⟨"EchoGorge$Verses","adopt","(LEchoGorge$Gorge;)V"⟩) : Cond) ∈ GW := tw4 (List.mem_of_getElem? (i := 125) rfl) rfl
theorem wd846 : ((Jvm.Cond.selects "EchoGorge$Verses" ⟨"EchoGorge$Verses","adopt","(LEchoGorge$Gorge;)V"⟩ ⟨"EchoGorge$Verses","adopt","(LEchoGorge$Gorge;)V"⟩) : Cond) ∈ GW := tw4 (List.mem_of_getElem? (i := 126) rfl) rfl
theorem wd847 : ((Jvm.Cond.code ⟨"EchoGorge$Verses","adopt","(LEchoGorge$Gorge;)V"⟩ prog_12_method_2_code 4 (Option.none : Option Jvm.ClassFile.FieldType)) : Cond) ∈ GW := tw4 (List.mem_of_getElem? (i := 127) rfl) rfl
theorem wd848 : ((Jvm.Cond.methodLink "EchoGorge$Verses" 71 ⟨"EchoGorge$Verses","measureForm","(I)V"⟩) : Cond) ∈ GW := tw4 (List.mem_of_getElem? (i := 128) rfl) rfl
theorem wd850 : ((Jvm.Cond.instanceMethod ⟨"EchoGorge$Verses","measureForm","(I)V"⟩) : Cond) ∈ GW := tw4 (List.mem_of_getElem? (i := 130) rfl) rfl
theorem wd851 : ((Jvm.Cond.code ⟨"EchoGorge$Verses","measureForm","(I)V"⟩ prog_12_method_3_code 8 (Option.none : Option Jvm.ClassFile.FieldType)) : Cond) ∈ GW := tw4 (List.mem_of_getElem? (i := 131) rfl) rfl
theorem wd852 : ((Jvm.Cond.methodLink "EchoGorgeLaw" 104 ⟨"EchoGorgeLaw","count","(LEchoGorge;I[J)I"⟩) : Cond) ∈ GW := tw4 (List.mem_of_getElem? (i := 132) rfl) rfl
theorem wd853 : ((Jvm.Cond.static ⟨"EchoGorgeLaw","count","(LEchoGorge;I[J)I"⟩) : Cond) ∈ GW := tw4 (List.mem_of_getElem? (i := 133) rfl) rfl
theorem wd854 : ((Jvm.Cond.codeWith ⟨"EchoGorgeLaw","count","(LEchoGorge;I[J)I"⟩ method_4_code 4 (Option.some Jvm.ClassFile.FieldType.int) [(0, 9, 12, 18)]) : Cond) ∈ GW := tw4 (List.mem_of_getElem? (i := 134) rfl) rfl
theorem wd856 : ((Jvm.Cond.methodLink "EchoGorgeLaw" 15 ⟨"EchoGorge","count","(I)I"⟩) : Cond) ∈ GW := tw4 (List.mem_of_getElem? (i := 136) rfl) rfl
theorem wd857 : ((Jvm.Cond.instanceMethod ⟨"EchoGorge","count","(I)I"⟩) : Cond) ∈ GW := tw4 (List.mem_of_getElem? (i := 137) rfl) rfl
theorem wd858 : ((Jvm.Cond.selects "EchoGorge" ⟨"EchoGorge","count","(I)I"⟩ ⟨"EchoGorge","count","(I)I"⟩) : Cond) ∈ GW := tw4 (List.mem_of_getElem? (i := 138) rfl) rfl
theorem wd859 : ((Jvm.Cond.code ⟨"EchoGorge","count","(I)I"⟩ prog_1_method_6_code 2 (Option.some Jvm.ClassFile.FieldType.int)) : Cond) ∈ GW := tw4 (List.mem_of_getElem? (i := 139) rfl) rfl
theorem wd860 : ((Jvm.Cond.classLink "EchoGorge" 156 "java/util/NoSuchElementException") : Cond) ∈ GW := tw4 (List.mem_of_getElem? (i := 140) rfl) rfl
theorem wd875 : ((Jvm.Cond.methodLink "EchoGorgeLaw" 107 ⟨"EchoGorgeLaw","wall","(LEchoGorge;II[J)I"⟩) : Cond) ∈ GW := tw4 (List.mem_of_getElem? (i := 155) rfl) rfl
theorem wd876 : ((Jvm.Cond.static ⟨"EchoGorgeLaw","wall","(LEchoGorge;II[J)I"⟩) : Cond) ∈ GW := tw4 (List.mem_of_getElem? (i := 156) rfl) rfl
theorem wd877 : ((Jvm.Cond.codeWith ⟨"EchoGorgeLaw","wall","(LEchoGorge;II[J)I"⟩ method_5_code 5 (Option.some Jvm.ClassFile.FieldType.int) [(0, 10, 13, 18)]) : Cond) ∈ GW := tw4 (List.mem_of_getElem? (i := 157) rfl) rfl
theorem wd878 : ((Jvm.Cond.methodLink "EchoGorgeLaw" 20 ⟨"EchoGorge","wall","(II)I"⟩) : Cond) ∈ GW := tw4 (List.mem_of_getElem? (i := 158) rfl) rfl
theorem wd879 : ((Jvm.Cond.instanceMethod ⟨"EchoGorge","wall","(II)I"⟩) : Cond) ∈ GW := tw4 (List.mem_of_getElem? (i := 159) rfl) rfl
theorem wd880 : ((Jvm.Cond.selects "EchoGorge" ⟨"EchoGorge","wall","(II)I"⟩ ⟨"EchoGorge","wall","(II)I"⟩) : Cond) ∈ GW := tw4 (List.mem_of_getElem? (i := 160) rfl) rfl
theorem wd881 : ((Jvm.Cond.code ⟨"EchoGorge","wall","(II)I"⟩ prog_1_method_7_code 3 (Option.some Jvm.ClassFile.FieldType.int)) : Cond) ∈ GW := tw4 (List.mem_of_getElem? (i := 161) rfl) rfl
theorem wd882 : ((Jvm.Cond.methodLink "EchoGorge" 159 ⟨"EchoGorge","needWall","(I)V"⟩) : Cond) ∈ GW := tw4 (List.mem_of_getElem? (i := 162) rfl) rfl
theorem wd884 : ((Jvm.Cond.instanceMethod ⟨"EchoGorge","needWall","(I)V"⟩) : Cond) ∈ GW := tw4 (List.mem_of_getElem? (i := 164) rfl) rfl
theorem wd885 : ((Jvm.Cond.code ⟨"EchoGorge","needWall","(I)V"⟩ prog_1_method_31_code 2 (Option.none : Option Jvm.ClassFile.FieldType)) : Cond) ∈ GW := tw4 (List.mem_of_getElem? (i := 165) rfl) rfl
theorem wd886 : ((Jvm.Cond.methodLink "EchoGorgeLaw" 111 ⟨"EchoGorgeLaw","word","(LEchoGorge;II[J)I"⟩) : Cond) ∈ GW := tw4 (List.mem_of_getElem? (i := 166) rfl) rfl
theorem wd887 : ((Jvm.Cond.static ⟨"EchoGorgeLaw","word","(LEchoGorge;II[J)I"⟩) : Cond) ∈ GW := tw4 (List.mem_of_getElem? (i := 167) rfl) rfl
theorem wd888 : ((Jvm.Cond.codeWith ⟨"EchoGorgeLaw","word","(LEchoGorge;II[J)I"⟩ method_6_code 5 (Option.some Jvm.ClassFile.FieldType.int) [(0, 10, 13, 18)]) : Cond) ∈ GW := tw4 (List.mem_of_getElem? (i := 168) rfl) rfl
theorem wd889 : ((Jvm.Cond.methodLink "EchoGorgeLaw" 24 ⟨"EchoGorge","word","(II)I"⟩) : Cond) ∈ GW := tw4 (List.mem_of_getElem? (i := 169) rfl) rfl
theorem wd890 : ((Jvm.Cond.instanceMethod ⟨"EchoGorge","word","(II)I"⟩) : Cond) ∈ GW := tw4 (List.mem_of_getElem? (i := 170) rfl) rfl
theorem wd891 : ((Jvm.Cond.selects "EchoGorge" ⟨"EchoGorge","word","(II)I"⟩ ⟨"EchoGorge","word","(II)I"⟩) : Cond) ∈ GW := tw4 (List.mem_of_getElem? (i := 171) rfl) rfl
theorem wd892 : ((Jvm.Cond.code ⟨"EchoGorge","word","(II)I"⟩ prog_1_method_8_code 3 (Option.some Jvm.ClassFile.FieldType.int)) : Cond) ∈ GW := tw4 (List.mem_of_getElem? (i := 172) rfl) rfl
theorem wd893 : ((Jvm.Cond.methodLink "EchoGorgeLaw" 114 ⟨"EchoGorgeLaw","say","(LEchoGorge;II[J)I"⟩) : Cond) ∈ GW := tw4 (List.mem_of_getElem? (i := 173) rfl) rfl
theorem wd894 : ((Jvm.Cond.static ⟨"EchoGorgeLaw","say","(LEchoGorge;II[J)I"⟩) : Cond) ∈ GW := tw4 (List.mem_of_getElem? (i := 174) rfl) rfl
theorem wd895 : ((Jvm.Cond.codeWith ⟨"EchoGorgeLaw","say","(LEchoGorge;II[J)I"⟩ method_7_code 5 (Option.some Jvm.ClassFile.FieldType.int) [(0, 10, 13, 18)]) : Cond) ∈ GW := tw4 (List.mem_of_getElem? (i := 175) rfl) rfl
theorem wd896 : ((Jvm.Cond.methodLink "EchoGorgeLaw" 27 ⟨"EchoGorge","say","(II)I"⟩) : Cond) ∈ GW := tw4 (List.mem_of_getElem? (i := 176) rfl) rfl
theorem wd897 : ((Jvm.Cond.instanceMethod ⟨"EchoGorge","say","(II)I"⟩) : Cond) ∈ GW := tw4 (List.mem_of_getElem? (i := 177) rfl) rfl
theorem wd898 : ((Jvm.Cond.selects "EchoGorge" ⟨"EchoGorge","say","(II)I"⟩ ⟨"EchoGorge","say","(II)I"⟩) : Cond) ∈ GW := tw4 (List.mem_of_getElem? (i := 178) rfl) rfl
theorem wd899 : ((Jvm.Cond.code ⟨"EchoGorge","say","(II)I"⟩ prog_1_method_9_code 3 (Option.some Jvm.ClassFile.FieldType.int)) : Cond) ∈ GW := tw4 (List.mem_of_getElem? (i := 179) rfl) rfl
theorem wd900 : ((Jvm.Cond.methodLink "EchoGorge" 183 ⟨"EchoGorge","needSound","(I)V"⟩) : Cond) ∈ GW := tw4 (List.mem_of_getElem? (i := 180) rfl) rfl
theorem wd902 : ((Jvm.Cond.instanceMethod ⟨"EchoGorge","needSound","(I)V"⟩) : Cond) ∈ GW := tw4 (List.mem_of_getElem? (i := 182) rfl) rfl
theorem wd903 : ((Jvm.Cond.code ⟨"EchoGorge","needSound","(I)V"⟩ prog_1_method_30_code 2 (Option.none : Option Jvm.ClassFile.FieldType)) : Cond) ∈ GW := tw4 (List.mem_of_getElem? (i := 183) rfl) rfl
theorem wd904 : ((Jvm.Cond.methodLink "EchoGorge" 186 ⟨"EchoGorge$Scene","addSaid","(II)Z"⟩) : Cond) ∈ GW := tw4 (List.mem_of_getElem? (i := 184) rfl) rfl
theorem wd905 : ((Jvm.Cond.instanceMethod ⟨"EchoGorge$Scene","addSaid","(II)Z"⟩) : Cond) ∈ GW := tw4 (List.mem_of_getElem? (i := 185) rfl) rfl
theorem wd906 : ((Jvm.Cond.selects "EchoGorge$Scene" ⟨"EchoGorge$Scene","addSaid","(II)Z"⟩ ⟨"EchoGorge$Scene","addSaid","(II)Z"⟩) : Cond) ∈ GW := tw4 (List.mem_of_getElem? (i := 186) rfl) rfl
theorem wd907 : ((Jvm.Cond.code ⟨"EchoGorge$Scene","addSaid","(II)Z"⟩ prog_10_method_5_code 3 (Option.some Jvm.ClassFile.FieldType.boolean)) : Cond) ∈ GW := tw4 (List.mem_of_getElem? (i := 187) rfl) rfl
theorem wd908 : ((Jvm.Cond.methodLink "EchoGorgeLaw" 121 ⟨"EchoGorgeLaw","heard","(LEchoGorge;III[J)I"⟩) : Cond) ∈ GW := tw4 (List.mem_of_getElem? (i := 188) rfl) rfl
theorem wd909 : ((Jvm.Cond.static ⟨"EchoGorgeLaw","heard","(LEchoGorge;III[J)I"⟩) : Cond) ∈ GW := tw4 (List.mem_of_getElem? (i := 189) rfl) rfl
theorem wd910 : ((Jvm.Cond.codeWith ⟨"EchoGorgeLaw","heard","(LEchoGorge;III[J)I"⟩ method_8_code 6 (Option.some Jvm.ClassFile.FieldType.int) [(0, 12, 15, 18)]) : Cond) ∈ GW := tw4 (List.mem_of_getElem? (i := 190) rfl) rfl
theorem wd911 : ((Jvm.Cond.methodLink "EchoGorgeLaw" 30 ⟨"EchoGorge","heard","(III)I"⟩) : Cond) ∈ GW := tw4 (List.mem_of_getElem? (i := 191) rfl) rfl
theorem wd912 : ((Jvm.Cond.instanceMethod ⟨"EchoGorge","heard","(III)I"⟩) : Cond) ∈ GW := tw4 (List.mem_of_getElem? (i := 192) rfl) rfl
theorem wd913 : ((Jvm.Cond.selects "EchoGorge" ⟨"EchoGorge","heard","(III)I"⟩ ⟨"EchoGorge","heard","(III)I"⟩) : Cond) ∈ GW := tw4 (List.mem_of_getElem? (i := 193) rfl) rfl
theorem wd914 : ((Jvm.Cond.code ⟨"EchoGorge","heard","(III)I"⟩ prog_1_method_11_code 5 (Option.some Jvm.ClassFile.FieldType.int)) : Cond) ∈ GW := tw4 (List.mem_of_getElem? (i := 194) rfl) rfl
theorem wd915 : ((Jvm.Cond.methodLink "EchoGorge" 193 ⟨"EchoGorge","needMoment","(III)V"⟩) : Cond) ∈ GW := tw4 (List.mem_of_getElem? (i := 195) rfl) rfl
theorem wd917 : ((Jvm.Cond.instanceMethod ⟨"EchoGorge","needMoment","(III)V"⟩) : Cond) ∈ GW := tw4 (List.mem_of_getElem? (i := 197) rfl) rfl
theorem wd918 : ((Jvm.Cond.code ⟨"EchoGorge","needMoment","(III)V"⟩ prog_1_method_34_code 4 (Option.none : Option Jvm.ClassFile.FieldType)) : Cond) ∈ GW := tw4 (List.mem_of_getElem? (i := 198) rfl) rfl
theorem wd919 : ((Jvm.Cond.methodLink "EchoGorge" 287 ⟨"EchoGorge","needEar","(I)V"⟩) : Cond) ∈ GW := tw4 (List.mem_of_getElem? (i := 199) rfl) rfl
theorem wd921 : ((Jvm.Cond.instanceMethod ⟨"EchoGorge","needEar","(I)V"⟩) : Cond) ∈ GW := tw4 (List.mem_of_getElem? (i := 201) rfl) rfl
theorem wd922 : ((Jvm.Cond.code ⟨"EchoGorge","needEar","(I)V"⟩ prog_1_method_32_code 2 (Option.none : Option Jvm.ClassFile.FieldType)) : Cond) ∈ GW := tw4 (List.mem_of_getElem? (i := 202) rfl) rfl
theorem wd923 : ((Jvm.Cond.methodLink "EchoGorge" 230 ⟨"EchoGorge","needHour","(I)V"⟩) : Cond) ∈ GW := tw4 (List.mem_of_getElem? (i := 203) rfl) rfl
theorem wd925 : ((Jvm.Cond.instanceMethod ⟨"EchoGorge","needHour","(I)V"⟩) : Cond) ∈ GW := tw4 (List.mem_of_getElem? (i := 205) rfl) rfl
theorem wd926 : ((Jvm.Cond.code ⟨"EchoGorge","needHour","(I)V"⟩ prog_1_method_33_code 2 (Option.none : Option Jvm.ClassFile.FieldType)) : Cond) ∈ GW := tw4 (List.mem_of_getElem? (i := 206) rfl) rfl
theorem wd927 : ((Jvm.Cond.methodLink "EchoGorge" 200 ⟨"EchoGorge$Returns","build","(LEchoGorge$Gorge;IIII)V"⟩) : Cond) ∈ GW := tw4 (List.mem_of_getElem? (i := 207) rfl) rfl
theorem wd928 : ((Jvm.Cond.instanceMethod ⟨"EchoGorge$Returns","build","(LEchoGorge$Gorge;IIII)V"⟩) : Cond) ∈ GW := tw4 (List.mem_of_getElem? (i := 208) rfl) rfl
theorem wd929 : ((Jvm.Cond.selects "EchoGorge$Returns" ⟨"EchoGorge$Returns","build","(LEchoGorge$Gorge;IIII)V"⟩ ⟨"EchoGorge$Returns","build","(LEchoGorge$Gorge;IIII)V"⟩) : Cond) ∈ GW := tw4 (List.mem_of_getElem? (i := 209) rfl) rfl
theorem wd930 : ((Jvm.Cond.code ⟨"EchoGorge$Returns","build","(LEchoGorge$Gorge;IIII)V"⟩ prog_9_method_3_code 9 (Option.none : Option Jvm.ClassFile.FieldType)) : Cond) ∈ GW := tw4 (List.mem_of_getElem? (i := 210) rfl) rfl
theorem wd931 : ((Jvm.Cond.methodLink "EchoGorge$Returns" 46 ⟨"EchoGorge$Returns","place","(I)I"⟩) : Cond) ∈ GW := tw4 (List.mem_of_getElem? (i := 211) rfl) rfl
theorem wd933 : ((Jvm.Cond.instanceMethod ⟨"EchoGorge$Returns","place","(I)I"⟩) : Cond) ∈ GW := tw4 (List.mem_of_getElem? (i := 213) rfl) rfl
theorem wd934 : ((Jvm.Cond.code ⟨"EchoGorge$Returns","place","(I)I"⟩ prog_9_method_5_code 4 (Option.some Jvm.ClassFile.FieldType.int)) : Cond) ∈ GW := tw4 (List.mem_of_getElem? (i := 214) rfl) rfl
theorem wd935 : ((Jvm.Cond.methodLink "EchoGorge$Returns" 54 ⟨"java/lang/System","arraycopy","(Ljava/lang/Object;ILjava/lang/Object;II)V"⟩) : Cond) ∈ GW := tw4 (List.mem_of_getElem? (i := 215) rfl) rfl
theorem wd936 : ((Jvm.Cond.methodLink "EchoGorge$Returns" 63 ⟨"EchoGorge$Returns","addWall","(LEchoGorge$Gorge;I)V"⟩) : Cond) ∈ GW := tw4 (List.mem_of_getElem? (i := 216) rfl) rfl
theorem wd938 : ((Jvm.Cond.instanceMethod ⟨"EchoGorge$Returns","addWall","(LEchoGorge$Gorge;I)V"⟩) : Cond) ∈ GW := tw4 (List.mem_of_getElem? (i := 218) rfl) rfl
theorem wd939 : ((Jvm.Cond.code ⟨"EchoGorge$Returns","addWall","(LEchoGorge$Gorge;I)V"⟩ prog_9_method_4_code 8 (Option.none : Option Jvm.ClassFile.FieldType)) : Cond) ∈ GW := tw4 (List.mem_of_getElem? (i := 219) rfl) rfl
theorem wd940 : ((Jvm.Cond.methodLink "EchoGorge$Returns" 67 ⟨"EchoGorge$Gorge","foggedShare","(II)I"⟩) : Cond) ∈ GW := tw4 (List.mem_of_getElem? (i := 220) rfl) rfl
theorem wd941 : ((Jvm.Cond.instanceMethod ⟨"EchoGorge$Gorge","foggedShare","(II)I"⟩) : Cond) ∈ GW := tw4 (List.mem_of_getElem? (i := 221) rfl) rfl
theorem wd942 : ((Jvm.Cond.selects "EchoGorge$Gorge" ⟨"EchoGorge$Gorge","foggedShare","(II)I"⟩ ⟨"EchoGorge$Gorge","foggedShare","(II)I"⟩) : Cond) ∈ GW := tw4 (List.mem_of_getElem? (i := 222) rfl) rfl
theorem wd943 : ((Jvm.Cond.code ⟨"EchoGorge$Gorge","foggedShare","(II)I"⟩ prog_4_method_4_code 3 (Option.some Jvm.ClassFile.FieldType.int)) : Cond) ∈ GW := tw4 (List.mem_of_getElem? (i := 223) rfl) rfl
theorem wd944 : ((Jvm.Cond.methodLink "EchoGorge$Returns" 77 ⟨"EchoGorge$Gorge","swallowsSound","(II)Z"⟩) : Cond) ∈ GW := tw4 (List.mem_of_getElem? (i := 224) rfl) rfl
theorem wd945 : ((Jvm.Cond.instanceMethod ⟨"EchoGorge$Gorge","swallowsSound","(II)Z"⟩) : Cond) ∈ GW := tw4 (List.mem_of_getElem? (i := 225) rfl) rfl
theorem wd946 : ((Jvm.Cond.selects "EchoGorge$Gorge" ⟨"EchoGorge$Gorge","swallowsSound","(II)Z"⟩ ⟨"EchoGorge$Gorge","swallowsSound","(II)Z"⟩) : Cond) ∈ GW := tw4 (List.mem_of_getElem? (i := 226) rfl) rfl
theorem wd947 : ((Jvm.Cond.code ⟨"EchoGorge$Gorge","swallowsSound","(II)Z"⟩ prog_4_method_3_code 3 (Option.some Jvm.ClassFile.FieldType.boolean)) : Cond) ∈ GW := tw4 (List.mem_of_getElem? (i := 227) rfl) rfl
theorem wd948 : ((Jvm.Cond.methodLink "EchoGorge" 207 ⟨"EchoGorge$Hearing","attend","(LEchoGorge$Gorge;LEchoGorge$Returns;[II)V"⟩) : Cond) ∈ GW := tw4 (List.mem_of_getElem? (i := 228) rfl) rfl
theorem wd949 : ((Jvm.Cond.instanceMethod ⟨"EchoGorge$Hearing","attend","(LEchoGorge$Gorge;LEchoGorge$Returns;[II)V"⟩) : Cond) ∈ GW := tw4 (List.mem_of_getElem? (i := 229) rfl) rfl
theorem wd950 : ((Jvm.Cond.selects "EchoGorge$Hearing" ⟨"EchoGorge$Hearing","attend","(LEchoGorge$Gorge;LEchoGorge$Returns;[II)V"⟩ ⟨"EchoGorge$Hearing","attend","(LEchoGorge$Gorge;LEchoGorge$Returns;[II)V"⟩) : Cond) ∈ GW := tw4 (List.mem_of_getElem? (i := 230) rfl) rfl
theorem wd951 : ((Jvm.Cond.code ⟨"EchoGorge$Hearing","attend","(LEchoGorge$Gorge;LEchoGorge$Returns;[II)V"⟩ prog_6_method_2_code 5 (Option.none : Option Jvm.ClassFile.FieldType)) : Cond) ∈ GW := tw4 (List.mem_of_getElem? (i := 231) rfl) rfl
theorem wd952 : ((Jvm.Cond.methodLink "EchoGorge" 214 ⟨"java/lang/Math","max","(II)I"⟩) : Cond) ∈ GW := tw4 (List.mem_of_getElem? (i := 232) rfl) rfl
theorem wd953 : ((Jvm.Cond.static ⟨"java/lang/Math","max","(II)I"⟩) : Cond) ∈ GW := tw4 (List.mem_of_getElem? (i := 233) rfl) rfl
theorem wd954 : (Cond.code Lib.Math.max.name Lib.Math.max.code 2 (some .int) : Cond) ∈ GW := tw4 (List.mem_of_getElem? (i := 234) rfl) rfl
theorem wd955 : ((Jvm.Cond.methodLink "EchoGorge" 220 ⟨"EchoGorge$Hearing","measure","(I)V"⟩) : Cond) ∈ GW := tw4 (List.mem_of_getElem? (i := 235) rfl) rfl
theorem wd956 : ((Jvm.Cond.instanceMethod ⟨"EchoGorge$Hearing","measure","(I)V"⟩) : Cond) ∈ GW := tw4 (List.mem_of_getElem? (i := 236) rfl) rfl
theorem wd957 : ((Jvm.Cond.selects "EchoGorge$Hearing" ⟨"EchoGorge$Hearing","measure","(I)V"⟩ ⟨"EchoGorge$Hearing","measure","(I)V"⟩) : Cond) ∈ GW := tw4 (List.mem_of_getElem? (i := 237) rfl) rfl
theorem wd958 : ((Jvm.Cond.code ⟨"EchoGorge$Hearing","measure","(I)V"⟩ prog_6_method_3_code 7 (Option.none : Option Jvm.ClassFile.FieldType)) : Cond) ∈ GW := tw4 (List.mem_of_getElem? (i := 238) rfl) rfl
theorem wd960 : ((Jvm.Cond.static ⟨"EchoGorge","lowestBit","(I)I"⟩) : Cond) ∈ GW := tw5 (List.mem_of_getElem? (i := 0) rfl) rfl
theorem wd961 : ((Jvm.Cond.code ⟨"EchoGorge","lowestBit","(I)I"⟩ prog_1_method_35_code 1 (Option.some Jvm.ClassFile.FieldType.int)) : Cond) ∈ GW := tw5 (List.mem_of_getElem? (i := 1) rfl) rfl
theorem wd962 : ((Jvm.Cond.methodLink "EchoGorge" 322 ⟨"java/lang/Integer","bitCount","(I)I"⟩) : Cond) ∈ GW := tw5 (List.mem_of_getElem? (i := 2) rfl) rfl
theorem wd963 : ((Jvm.Cond.static ⟨"java/lang/Integer","bitCount","(I)I"⟩) : Cond) ∈ GW := tw5 (List.mem_of_getElem? (i := 3) rfl) rfl
theorem wd964 : ((Jvm.Cond.code ⟨"java/lang/Integer","bitCount","(I)I"⟩ prog_20_method_49_code 1 (Option.some Jvm.ClassFile.FieldType.int)) : Cond) ∈ GW := tw5 (List.mem_of_getElem? (i := 4) rfl) rfl
theorem wd965 : ((Jvm.Cond.constant "java/lang/Integer" 265 (1431655765 : Int32)) : Cond) ∈ GW := tw5 (List.mem_of_getElem? (i := 5) rfl) rfl
theorem wd966 : ((Jvm.Cond.constant "java/lang/Integer" 266 (858993459 : Int32)) : Cond) ∈ GW := tw5 (List.mem_of_getElem? (i := 6) rfl) rfl
theorem wd967 : ((Jvm.Cond.constant "java/lang/Integer" 267 (252645135 : Int32)) : Cond) ∈ GW := tw5 (List.mem_of_getElem? (i := 7) rfl) rfl
theorem wd968 : ((Jvm.Cond.methodLink "EchoGorge" 223 ⟨"EchoGorge$Hearing","hears","(I)I"⟩) : Cond) ∈ GW := tw5 (List.mem_of_getElem? (i := 8) rfl) rfl
theorem wd969 : ((Jvm.Cond.instanceMethod ⟨"EchoGorge$Hearing","hears","(I)I"⟩) : Cond) ∈ GW := tw5 (List.mem_of_getElem? (i := 9) rfl) rfl
theorem wd970 : ((Jvm.Cond.selects "EchoGorge$Hearing" ⟨"EchoGorge$Hearing","hears","(I)I"⟩ ⟨"EchoGorge$Hearing","hears","(I)I"⟩) : Cond) ∈ GW := tw5 (List.mem_of_getElem? (i := 10) rfl) rfl
theorem wd971 : ((Jvm.Cond.code ⟨"EchoGorge$Hearing","hears","(I)I"⟩ prog_6_method_4_code 5 (Option.some Jvm.ClassFile.FieldType.int)) : Cond) ∈ GW := tw5 (List.mem_of_getElem? (i := 11) rfl) rfl
theorem wd972 : ((Jvm.Cond.methodLink "EchoGorge$Hearing" 65 ⟨"java/lang/Math","max","(II)I"⟩) : Cond) ∈ GW := tw5 (List.mem_of_getElem? (i := 12) rfl) rfl
theorem wd973 : ((Jvm.Cond.methodLink "EchoGorgeLaw" 125 ⟨"EchoGorgeLaw","loud","(LEchoGorge;IIII[J)I"⟩) : Cond) ∈ GW := tw5 (List.mem_of_getElem? (i := 13) rfl) rfl
theorem wd974 : ((Jvm.Cond.static ⟨"EchoGorgeLaw","loud","(LEchoGorge;IIII[J)I"⟩) : Cond) ∈ GW := tw5 (List.mem_of_getElem? (i := 14) rfl) rfl
theorem wd975 : ((Jvm.Cond.codeWith ⟨"EchoGorgeLaw","loud","(LEchoGorge;IIII[J)I"⟩ method_9_code 7 (Option.some Jvm.ClassFile.FieldType.int) [(0, 14, 17, 18)]) : Cond) ∈ GW := tw5 (List.mem_of_getElem? (i := 15) rfl) rfl
theorem wd976 : ((Jvm.Cond.methodLink "EchoGorgeLaw" 34 ⟨"EchoGorge","loud","(IIII)I"⟩) : Cond) ∈ GW := tw5 (List.mem_of_getElem? (i := 16) rfl) rfl
theorem wd977 : ((Jvm.Cond.instanceMethod ⟨"EchoGorge","loud","(IIII)I"⟩) : Cond) ∈ GW := tw5 (List.mem_of_getElem? (i := 17) rfl) rfl
theorem wd978 : ((Jvm.Cond.selects "EchoGorge" ⟨"EchoGorge","loud","(IIII)I"⟩ ⟨"EchoGorge","loud","(IIII)I"⟩) : Cond) ∈ GW := tw5 (List.mem_of_getElem? (i := 18) rfl) rfl
theorem wd979 : ((Jvm.Cond.code ⟨"EchoGorge","loud","(IIII)I"⟩ prog_1_method_12_code 5 (Option.some Jvm.ClassFile.FieldType.int)) : Cond) ∈ GW := tw5 (List.mem_of_getElem? (i := 19) rfl) rfl
theorem wd980 : ((Jvm.Cond.methodLink "EchoGorge" 227 ⟨"EchoGorge$Hearing","loudness","(II)I"⟩) : Cond) ∈ GW := tw5 (List.mem_of_getElem? (i := 20) rfl) rfl
theorem wd981 : ((Jvm.Cond.instanceMethod ⟨"EchoGorge$Hearing","loudness","(II)I"⟩) : Cond) ∈ GW := tw5 (List.mem_of_getElem? (i := 21) rfl) rfl
theorem wd982 : ((Jvm.Cond.selects "EchoGorge$Hearing" ⟨"EchoGorge$Hearing","loudness","(II)I"⟩ ⟨"EchoGorge$Hearing","loudness","(II)I"⟩) : Cond) ∈ GW := tw5 (List.mem_of_getElem? (i := 22) rfl) rfl
theorem wd983 : ((Jvm.Cond.code ⟨"EchoGorge$Hearing","loudness","(II)I"⟩ prog_6_method_5_code 6 (Option.some Jvm.ClassFile.FieldType.int)) : Cond) ∈ GW := tw5 (List.mem_of_getElem? (i := 23) rfl) rfl
theorem wd984 : ((Jvm.Cond.methodLink "EchoGorgeLaw" 129 ⟨"EchoGorgeLaw","lines","(LEchoGorge;II[J)I"⟩) : Cond) ∈ GW := tw5 (List.mem_of_getElem? (i := 24) rfl) rfl
theorem wd985 : ((Jvm.Cond.static ⟨"EchoGorgeLaw","lines","(LEchoGorge;II[J)I"⟩) : Cond) ∈ GW := tw5 (List.mem_of_getElem? (i := 25) rfl) rfl
theorem wd986 : ((Jvm.Cond.codeWith ⟨"EchoGorgeLaw","lines","(LEchoGorge;II[J)I"⟩ method_10_code 5 (Option.some Jvm.ClassFile.FieldType.int) [(0, 10, 13, 18)]) : Cond) ∈ GW := tw5 (List.mem_of_getElem? (i := 26) rfl) rfl
theorem wd987 : ((Jvm.Cond.methodLink "EchoGorgeLaw" 38 ⟨"EchoGorge","lines","(II)I"⟩) : Cond) ∈ GW := tw5 (List.mem_of_getElem? (i := 27) rfl) rfl
theorem wd988 : ((Jvm.Cond.instanceMethod ⟨"EchoGorge","lines","(II)I"⟩) : Cond) ∈ GW := tw5 (List.mem_of_getElem? (i := 28) rfl) rfl
theorem wd989 : ((Jvm.Cond.selects "EchoGorge" ⟨"EchoGorge","lines","(II)I"⟩ ⟨"EchoGorge","lines","(II)I"⟩) : Cond) ∈ GW := tw5 (List.mem_of_getElem? (i := 29) rfl) rfl
theorem wd990 : ((Jvm.Cond.code ⟨"EchoGorge","lines","(II)I"⟩ prog_1_method_13_code 3 (Option.some Jvm.ClassFile.FieldType.int)) : Cond) ∈ GW := tw5 (List.mem_of_getElem? (i := 30) rfl) rfl
theorem wd991 : ((Jvm.Cond.methodLink "EchoGorge" 236 ⟨"EchoGorge$Verses","survey","(ILEchoGorge$Hearing;LEchoGorge$Returns;)I"⟩) : Cond) ∈ GW := tw5 (List.mem_of_getElem? (i := 31) rfl) rfl
theorem wd992 : ((Jvm.Cond.instanceMethod ⟨"EchoGorge$Verses","survey","(ILEchoGorge$Hearing;LEchoGorge$Returns;)I"⟩) : Cond) ∈ GW := tw5 (List.mem_of_getElem? (i := 32) rfl) rfl
theorem wd993 : ((Jvm.Cond.selects "EchoGorge$Verses" ⟨"EchoGorge$Verses","survey","(ILEchoGorge$Hearing;LEchoGorge$Returns;)I"⟩ ⟨"EchoGorge$Verses","survey","(ILEchoGorge$Hearing;LEchoGorge$Returns;)I"⟩) : Cond) ∈ GW := tw5 (List.mem_of_getElem? (i := 33) rfl) rfl
theorem wd994 : ((Jvm.Cond.code ⟨"EchoGorge$Verses","survey","(ILEchoGorge$Hearing;LEchoGorge$Returns;)I"⟩ prog_12_method_11_code 8 (Option.some Jvm.ClassFile.FieldType.int)) : Cond) ∈ GW := tw5 (List.mem_of_getElem? (i := 34) rfl) rfl
theorem wd995 : ((Jvm.Cond.methodLink "EchoGorge$Verses" 132 ⟨"EchoGorge$Returns","build","(LEchoGorge$Gorge;IIII)V"⟩) : Cond) ∈ GW := tw5 (List.mem_of_getElem? (i := 35) rfl) rfl
theorem wd996 : ((Jvm.Cond.methodLink "EchoGorge$Verses" 136 ⟨"EchoGorge$Verses","surveyForm","(IIILEchoGorge$Hearing;LEchoGorge$Returns;)V"⟩) : Cond) ∈ GW := tw5 (List.mem_of_getElem? (i := 36) rfl) rfl
theorem wd998 : ((Jvm.Cond.instanceMethod ⟨"EchoGorge$Verses","surveyForm","(IIILEchoGorge$Hearing;LEchoGorge$Returns;)V"⟩) : Cond) ∈ GW := tw5 (List.mem_of_getElem? (i := 38) rfl) rfl
theorem wd999 : ((Jvm.Cond.code ⟨"EchoGorge$Verses","surveyForm","(IIILEchoGorge$Hearing;LEchoGorge$Returns;)V"⟩ prog_12_method_12_code 12 (Option.none : Option Jvm.ClassFile.FieldType)) : Cond) ∈ GW := tw5 (List.mem_of_getElem? (i := 39) rfl) rfl
theorem wd1000 : ((Jvm.Cond.methodLink "EchoGorge$Verses" 87 ⟨"java/lang/Math","max","(II)I"⟩) : Cond) ∈ GW := tw5 (List.mem_of_getElem? (i := 40) rfl) rfl
theorem wd1001 : ((Jvm.Cond.methodLink "EchoGorge$Verses" 140 ⟨"EchoGorge$Verses","spell","(II)V"⟩) : Cond) ∈ GW := tw5 (List.mem_of_getElem? (i := 41) rfl) rfl
theorem wd1003 : ((Jvm.Cond.instanceMethod ⟨"EchoGorge$Verses","spell","(II)V"⟩) : Cond) ∈ GW := tw5 (List.mem_of_getElem? (i := 43) rfl) rfl
theorem wd1004 : ((Jvm.Cond.code ⟨"EchoGorge$Verses","spell","(II)V"⟩ prog_12_method_4_code 8 (Option.none : Option Jvm.ClassFile.FieldType)) : Cond) ∈ GW := tw5 (List.mem_of_getElem? (i := 44) rfl) rfl
theorem wd1005 : ((Jvm.Cond.methodLink "EchoGorge$Verses" 144 ⟨"EchoGorge$Verses","listen","(LEchoGorge$Hearing;LEchoGorge$Returns;)Z"⟩) : Cond) ∈ GW := tw5 (List.mem_of_getElem? (i := 45) rfl) rfl
theorem wd1007 : ((Jvm.Cond.instanceMethod ⟨"EchoGorge$Verses","listen","(LEchoGorge$Hearing;LEchoGorge$Returns;)Z"⟩) : Cond) ∈ GW := tw5 (List.mem_of_getElem? (i := 47) rfl) rfl
theorem wd1008 : ((Jvm.Cond.code ⟨"EchoGorge$Verses","listen","(LEchoGorge$Hearing;LEchoGorge$Returns;)Z"⟩ prog_12_method_5_code 6 (Option.some Jvm.ClassFile.FieldType.boolean)) : Cond) ∈ GW := tw5 (List.mem_of_getElem? (i := 48) rfl) rfl
theorem wd1009 : ((Jvm.Cond.methodLink "EchoGorge$Verses" 101 ⟨"EchoGorge$Hearing","attend","(LEchoGorge$Gorge;LEchoGorge$Returns;[II)V"⟩) : Cond) ∈ GW := tw5 (List.mem_of_getElem? (i := 49) rfl) rfl
theorem wd1010 : ((Jvm.Cond.methodLink "EchoGorge$Verses" 107 ⟨"EchoGorge$Returns","longest","()I"⟩) : Cond) ∈ GW := tw5 (List.mem_of_getElem? (i := 50) rfl) rfl
theorem wd1011 : ((Jvm.Cond.instanceMethod ⟨"EchoGorge$Returns","longest","()I"⟩) : Cond) ∈ GW := tw5 (List.mem_of_getElem? (i := 51) rfl) rfl
theorem wd1012 : ((Jvm.Cond.selects "EchoGorge$Returns" ⟨"EchoGorge$Returns","longest","()I"⟩ ⟨"EchoGorge$Returns","longest","()I"⟩) : Cond) ∈ GW := tw5 (List.mem_of_getElem? (i := 52) rfl) rfl
theorem wd1013 : ((Jvm.Cond.code ⟨"EchoGorge$Returns","longest","()I"⟩ prog_9_method_6_code 1 (Option.some Jvm.ClassFile.FieldType.int)) : Cond) ∈ GW := tw5 (List.mem_of_getElem? (i := 53) rfl) rfl
theorem wd1014 : ((Jvm.Cond.methodLink "EchoGorge$Verses" 112 ⟨"EchoGorge$Hearing","measure","(I)V"⟩) : Cond) ∈ GW := tw5 (List.mem_of_getElem? (i := 54) rfl) rfl
theorem wd1015 : ((Jvm.Cond.methodLink "EchoGorge$Verses" 115 ⟨"EchoGorge$Hearing","hears","(I)I"⟩) : Cond) ∈ GW := tw5 (List.mem_of_getElem? (i := 55) rfl) rfl
theorem wd1016 : ((Jvm.Cond.methodLink "EchoGorge$Verses" 148 ⟨"EchoGorge$Verses","weigh","(III)I"⟩) : Cond) ∈ GW := tw5 (List.mem_of_getElem? (i := 56) rfl) rfl
theorem wd1018 : ((Jvm.Cond.instanceMethod ⟨"EchoGorge$Verses","weigh","(III)I"⟩) : Cond) ∈ GW := tw5 (List.mem_of_getElem? (i := 58) rfl) rfl
theorem wd1019 : ((Jvm.Cond.code ⟨"EchoGorge$Verses","weigh","(III)I"⟩ prog_12_method_13_code 5 (Option.some Jvm.ClassFile.FieldType.int)) : Cond) ∈ GW := tw5 (List.mem_of_getElem? (i := 59) rfl) rfl
theorem wd1020 : ((Jvm.Cond.methodLink "EchoGorge$Verses" 152 ⟨"EchoGorge$Verses","isEchoed","(I)Z"⟩) : Cond) ∈ GW := tw5 (List.mem_of_getElem? (i := 60) rfl) rfl
theorem wd1022 : ((Jvm.Cond.instanceMethod ⟨"EchoGorge$Verses","isEchoed","(I)Z"⟩) : Cond) ∈ GW := tw5 (List.mem_of_getElem? (i := 62) rfl) rfl
theorem wd1023 : ((Jvm.Cond.code ⟨"EchoGorge$Verses","isEchoed","(I)Z"⟩ prog_12_method_10_code 3 (Option.some Jvm.ClassFile.FieldType.boolean)) : Cond) ∈ GW := tw5 (List.mem_of_getElem? (i := 63) rfl) rfl
theorem wd1024 : ((Jvm.Cond.methodLink "EchoGorge$Verses" 125 ⟨"EchoGorge$Verses","fitsAt","(II)Z"⟩) : Cond) ∈ GW := tw5 (List.mem_of_getElem? (i := 64) rfl) rfl
theorem wd1026 : ((Jvm.Cond.instanceMethod ⟨"EchoGorge$Verses","fitsAt","(II)Z"⟩) : Cond) ∈ GW := tw5 (List.mem_of_getElem? (i := 66) rfl) rfl
theorem wd1027 : ((Jvm.Cond.code ⟨"EchoGorge$Verses","fitsAt","(II)Z"⟩ prog_12_method_9_code 4 (Option.some Jvm.ClassFile.FieldType.boolean)) : Cond) ∈ GW := tw5 (List.mem_of_getElem? (i := 67) rfl) rfl
theorem wd1028 : ((Jvm.Cond.methodLink "EchoGorge$Verses" 156 ⟨"EchoGorge$Verses","isLine","()Z"⟩) : Cond) ∈ GW := tw5 (List.mem_of_getElem? (i := 68) rfl) rfl
theorem wd1030 : ((Jvm.Cond.instanceMethod ⟨"EchoGorge$Verses","isLine","()Z"⟩) : Cond) ∈ GW := tw5 (List.mem_of_getElem? (i := 70) rfl) rfl
theorem wd1031 : ((Jvm.Cond.code ⟨"EchoGorge$Verses","isLine","()Z"⟩ prog_12_method_6_code 4 (Option.some Jvm.ClassFile.FieldType.boolean)) : Cond) ∈ GW := tw5 (List.mem_of_getElem? (i := 71) rfl) rfl
theorem wd1032 : ((Jvm.Cond.methodLink "EchoGorge$Verses" 119 ⟨"EchoGorge$Verses","fittingPlaces","(I)I"⟩) : Cond) ∈ GW := tw5 (List.mem_of_getElem? (i := 72) rfl) rfl
theorem wd1034 : ((Jvm.Cond.instanceMethod ⟨"EchoGorge$Verses","fittingPlaces","(I)I"⟩) : Cond) ∈ GW := tw5 (List.mem_of_getElem? (i := 74) rfl) rfl
theorem wd1035 : ((Jvm.Cond.code ⟨"EchoGorge$Verses","fittingPlaces","(I)I"⟩ prog_12_method_8_code 4 (Option.some Jvm.ClassFile.FieldType.int)) : Cond) ∈ GW := tw5 (List.mem_of_getElem? (i := 75) rfl) rfl
theorem wd1036 : ((Jvm.Cond.methodLink "EchoGorge$Verses" 122 ⟨"EchoGorge$Verses","layKind","(II)I"⟩) : Cond) ∈ GW := tw5 (List.mem_of_getElem? (i := 76) rfl) rfl
theorem wd1038 : ((Jvm.Cond.instanceMethod ⟨"EchoGorge$Verses","layKind","(II)I"⟩) : Cond) ∈ GW := tw5 (List.mem_of_getElem? (i := 78) rfl) rfl
theorem wd1039 : ((Jvm.Cond.code ⟨"EchoGorge$Verses","layKind","(II)I"⟩ prog_12_method_7_code 6 (Option.some Jvm.ClassFile.FieldType.int)) : Cond) ∈ GW := tw5 (List.mem_of_getElem? (i := 79) rfl) rfl
theorem wd1040 : ((Jvm.Cond.methodLink "EchoGorge" 240 ⟨"EchoGorge$Verses","figure","(II)I"⟩) : Cond) ∈ GW := tw5 (List.mem_of_getElem? (i := 80) rfl) rfl
theorem wd1041 : ((Jvm.Cond.instanceMethod ⟨"EchoGorge$Verses","figure","(II)I"⟩) : Cond) ∈ GW := tw5 (List.mem_of_getElem? (i := 81) rfl) rfl
theorem wd1042 : ((Jvm.Cond.selects "EchoGorge$Verses" ⟨"EchoGorge$Verses","figure","(II)I"⟩ ⟨"EchoGorge$Verses","figure","(II)I"⟩) : Cond) ∈ GW := tw5 (List.mem_of_getElem? (i := 82) rfl) rfl
theorem wd1043 : ((Jvm.Cond.code ⟨"EchoGorge$Verses","figure","(II)I"⟩ prog_12_method_14_code 3 (Option.some Jvm.ClassFile.FieldType.int)) : Cond) ∈ GW := tw5 (List.mem_of_getElem? (i := 83) rfl) rfl
theorem wd1044 : ((Jvm.Cond.methodLink "EchoGorgeLaw" 132 ⟨"EchoGorgeLaw","line","(LEchoGorge;III[J)I"⟩) : Cond) ∈ GW := tw5 (List.mem_of_getElem? (i := 84) rfl) rfl
theorem wd1045 : ((Jvm.Cond.static ⟨"EchoGorgeLaw","line","(LEchoGorge;III[J)I"⟩) : Cond) ∈ GW := tw5 (List.mem_of_getElem? (i := 85) rfl) rfl
theorem wd1046 : ((Jvm.Cond.codeWith ⟨"EchoGorgeLaw","line","(LEchoGorge;III[J)I"⟩ method_11_code 6 (Option.some Jvm.ClassFile.FieldType.int) [(0, 12, 15, 18)]) : Cond) ∈ GW := tw5 (List.mem_of_getElem? (i := 86) rfl) rfl
theorem wd1047 : ((Jvm.Cond.methodLink "EchoGorgeLaw" 41 ⟨"EchoGorge","line","(III)I"⟩) : Cond) ∈ GW := tw5 (List.mem_of_getElem? (i := 87) rfl) rfl
theorem wd1048 : ((Jvm.Cond.instanceMethod ⟨"EchoGorge","line","(III)I"⟩) : Cond) ∈ GW := tw5 (List.mem_of_getElem? (i := 88) rfl) rfl
theorem wd1049 : ((Jvm.Cond.selects "EchoGorge" ⟨"EchoGorge","line","(III)I"⟩ ⟨"EchoGorge","line","(III)I"⟩) : Cond) ∈ GW := tw5 (List.mem_of_getElem? (i := 89) rfl) rfl
theorem wd1050 : ((Jvm.Cond.code ⟨"EchoGorge","line","(III)I"⟩ prog_1_method_14_code 5 (Option.some Jvm.ClassFile.FieldType.int)) : Cond) ∈ GW := tw5 (List.mem_of_getElem? (i := 90) rfl) rfl
theorem wd1051 : ((Jvm.Cond.methodLink "EchoGorge" 243 ⟨"EchoGorge$Verses","answering","(II)I"⟩) : Cond) ∈ GW := tw5 (List.mem_of_getElem? (i := 91) rfl) rfl
theorem wd1052 : ((Jvm.Cond.instanceMethod ⟨"EchoGorge$Verses","answering","(II)I"⟩) : Cond) ∈ GW := tw5 (List.mem_of_getElem? (i := 92) rfl) rfl
theorem wd1053 : ((Jvm.Cond.selects "EchoGorge$Verses" ⟨"EchoGorge$Verses","answering","(II)I"⟩ ⟨"EchoGorge$Verses","answering","(II)I"⟩) : Cond) ∈ GW := tw5 (List.mem_of_getElem? (i := 93) rfl) rfl
theorem wd1054 : ((Jvm.Cond.code ⟨"EchoGorge$Verses","answering","(II)I"⟩ prog_12_method_16_code 5 (Option.some Jvm.ClassFile.FieldType.int)) : Cond) ∈ GW := tw5 (List.mem_of_getElem? (i := 94) rfl) rfl
theorem wd1055 : ((Jvm.Cond.methodLink "EchoGorge$Verses" 160 ⟨"EchoGorge$Verses","answersNow","(II)Z"⟩) : Cond) ∈ GW := tw5 (List.mem_of_getElem? (i := 95) rfl) rfl
theorem wd1057 : ((Jvm.Cond.instanceMethod ⟨"EchoGorge$Verses","answersNow","(II)Z"⟩) : Cond) ∈ GW := tw5 (List.mem_of_getElem? (i := 97) rfl) rfl
theorem wd1058 : ((Jvm.Cond.code ⟨"EchoGorge$Verses","answersNow","(II)Z"⟩ prog_12_method_15_code 3 (Option.some Jvm.ClassFile.FieldType.boolean)) : Cond) ∈ GW := tw5 (List.mem_of_getElem? (i := 98) rfl) rfl
theorem wd1059 : ((Jvm.Cond.methodLink "EchoGorge" 246 ⟨"EchoGorge$Verses","partOf","(II)I"⟩) : Cond) ∈ GW := tw5 (List.mem_of_getElem? (i := 99) rfl) rfl
theorem wd1060 : ((Jvm.Cond.instanceMethod ⟨"EchoGorge$Verses","partOf","(II)I"⟩) : Cond) ∈ GW := tw5 (List.mem_of_getElem? (i := 100) rfl) rfl
theorem wd1061 : ((Jvm.Cond.selects "EchoGorge$Verses" ⟨"EchoGorge$Verses","partOf","(II)I"⟩ ⟨"EchoGorge$Verses","partOf","(II)I"⟩) : Cond) ∈ GW := tw5 (List.mem_of_getElem? (i := 101) rfl) rfl
theorem wd1062 : ((Jvm.Cond.code ⟨"EchoGorge$Verses","partOf","(II)I"⟩ prog_12_method_17_code 5 (Option.some Jvm.ClassFile.FieldType.int)) : Cond) ∈ GW := tw5 (List.mem_of_getElem? (i := 102) rfl) rfl
theorem wd1063 : ((Jvm.Cond.methodLink "EchoGorgeLaw" 135 ⟨"EchoGorgeLaw","still","(LEchoGorge;II[J)I"⟩) : Cond) ∈ GW := tw5 (List.mem_of_getElem? (i := 103) rfl) rfl
theorem wd1064 : ((Jvm.Cond.static ⟨"EchoGorgeLaw","still","(LEchoGorge;II[J)I"⟩) : Cond) ∈ GW := tw5 (List.mem_of_getElem? (i := 104) rfl) rfl
theorem wd1065 : ((Jvm.Cond.codeWith ⟨"EchoGorgeLaw","still","(LEchoGorge;II[J)I"⟩ method_12_code 5 (Option.some Jvm.ClassFile.FieldType.int) [(0, 10, 13, 18), (0, 10, 17, 13)]) : Cond) ∈ GW := tw5 (List.mem_of_getElem? (i := 105) rfl) rfl
theorem wd1066 : ((Jvm.Cond.methodLink "EchoGorgeLaw" 44 ⟨"EchoGorge","still","(II)I"⟩) : Cond) ∈ GW := tw5 (List.mem_of_getElem? (i := 106) rfl) rfl
theorem wd1067 : ((Jvm.Cond.instanceMethod ⟨"EchoGorge","still","(II)I"⟩) : Cond) ∈ GW := tw5 (List.mem_of_getElem? (i := 107) rfl) rfl
theorem wd1068 : ((Jvm.Cond.selects "EchoGorge" ⟨"EchoGorge","still","(II)I"⟩ ⟨"EchoGorge","still","(II)I"⟩) : Cond) ∈ GW := tw5 (List.mem_of_getElem? (i := 108) rfl) rfl
theorem wd1069 : ((Jvm.Cond.code ⟨"EchoGorge","still","(II)I"⟩ prog_1_method_15_code 4 (Option.some Jvm.ClassFile.FieldType.int)) : Cond) ∈ GW := tw5 (List.mem_of_getElem? (i := 109) rfl) rfl
theorem wd1070 : ((Jvm.Cond.methodLink "EchoGorge" 249 ⟨"EchoGorge$Verses","countStill","(ILEchoGorge$Hearing;LEchoGorge$Returns;I)I"⟩) : Cond) ∈ GW := tw5 (List.mem_of_getElem? (i := 110) rfl) rfl
theorem wd1071 : ((Jvm.Cond.instanceMethod ⟨"EchoGorge$Verses","countStill","(ILEchoGorge$Hearing;LEchoGorge$Returns;I)I"⟩) : Cond) ∈ GW := tw5 (List.mem_of_getElem? (i := 111) rfl) rfl
theorem wd1072 : ((Jvm.Cond.selects "EchoGorge$Verses" ⟨"EchoGorge$Verses","countStill","(ILEchoGorge$Hearing;LEchoGorge$Returns;I)I"⟩ ⟨"EchoGorge$Verses","countStill","(ILEchoGorge$Hearing;LEchoGorge$Returns;I)I"⟩) : Cond) ∈ GW := tw5 (List.mem_of_getElem? (i := 112) rfl) rfl
theorem wd1073 : ((Jvm.Cond.code ⟨"EchoGorge$Verses","countStill","(ILEchoGorge$Hearing;LEchoGorge$Returns;I)I"⟩ prog_12_method_18_code 9 (Option.some Jvm.ClassFile.FieldType.int)) : Cond) ∈ GW := tw5 (List.mem_of_getElem? (i := 113) rfl) rfl
theorem wd1074 : ((Jvm.Cond.methodLink "EchoGorgeLaw" 138 ⟨"EchoGorgeLaw","without","(LEchoGorge;II[J)I"⟩) : Cond) ∈ GW := tw5 (List.mem_of_getElem? (i := 114) rfl) rfl
theorem wd1075 : ((Jvm.Cond.static ⟨"EchoGorgeLaw","without","(LEchoGorge;II[J)I"⟩) : Cond) ∈ GW := tw5 (List.mem_of_getElem? (i := 115) rfl) rfl
theorem wd1076 : ((Jvm.Cond.codeWith ⟨"EchoGorgeLaw","without","(LEchoGorge;II[J)I"⟩ method_13_code 5 (Option.some Jvm.ClassFile.FieldType.int) [(0, 10, 13, 18)]) : Cond) ∈ GW := tw5 (List.mem_of_getElem? (i := 116) rfl) rfl
theorem wd1077 : ((Jvm.Cond.methodLink "EchoGorgeLaw" 47 ⟨"EchoGorge","without","(II)I"⟩) : Cond) ∈ GW := tw5 (List.mem_of_getElem? (i := 117) rfl) rfl
theorem wd1078 : ((Jvm.Cond.instanceMethod ⟨"EchoGorge","without","(II)I"⟩) : Cond) ∈ GW := tw5 (List.mem_of_getElem? (i := 118) rfl) rfl
theorem wd1079 : ((Jvm.Cond.selects "EchoGorge" ⟨"EchoGorge","without","(II)I"⟩ ⟨"EchoGorge","without","(II)I"⟩) : Cond) ∈ GW := tw5 (List.mem_of_getElem? (i := 119) rfl) rfl
theorem wd1080 : ((Jvm.Cond.code ⟨"EchoGorge","without","(II)I"⟩ prog_1_method_16_code 4 (Option.some Jvm.ClassFile.FieldType.int)) : Cond) ∈ GW := tw5 (List.mem_of_getElem? (i := 120) rfl) rfl
theorem wd1081 : ((Jvm.Cond.methodLink "EchoGorgeLaw" 141 ⟨"EchoGorgeLaw","lasts","(LEchoGorge;I[J)I"⟩) : Cond) ∈ GW := tw5 (List.mem_of_getElem? (i := 121) rfl) rfl
theorem wd1082 : ((Jvm.Cond.static ⟨"EchoGorgeLaw","lasts","(LEchoGorge;I[J)I"⟩) : Cond) ∈ GW := tw5 (List.mem_of_getElem? (i := 122) rfl) rfl
theorem wd1083 : ((Jvm.Cond.codeWith ⟨"EchoGorgeLaw","lasts","(LEchoGorge;I[J)I"⟩ method_14_code 4 (Option.some Jvm.ClassFile.FieldType.int) [(0, 9, 12, 18)]) : Cond) ∈ GW := tw5 (List.mem_of_getElem? (i := 123) rfl) rfl
theorem wd1084 : ((Jvm.Cond.methodLink "EchoGorgeLaw" 50 ⟨"EchoGorge","lasts","(I)I"⟩) : Cond) ∈ GW := tw5 (List.mem_of_getElem? (i := 124) rfl) rfl
theorem wd1085 : ((Jvm.Cond.instanceMethod ⟨"EchoGorge","lasts","(I)I"⟩) : Cond) ∈ GW := tw5 (List.mem_of_getElem? (i := 125) rfl) rfl
theorem wd1086 : ((Jvm.Cond.selects "EchoGorge" ⟨"EchoGorge","lasts","(I)I"⟩ ⟨"EchoGorge","lasts","(I)I"⟩) : Cond) ∈ GW := tw5 (List.mem_of_getElem? (i := 126) rfl) rfl
theorem wd1087 : ((Jvm.Cond.code ⟨"EchoGorge","lasts","(I)I"⟩ prog_1_method_17_code 2 (Option.some Jvm.ClassFile.FieldType.int)) : Cond) ∈ GW := tw5 (List.mem_of_getElem? (i := 127) rfl) rfl
theorem wd1088 : ((Jvm.Cond.methodLink "EchoGorge" 253 ⟨"EchoGorge$Verses","thickestFog","(ILEchoGorge$Hearing;LEchoGorge$Returns;)I"⟩) : Cond) ∈ GW := tw5 (List.mem_of_getElem? (i := 128) rfl) rfl
theorem wd1089 : ((Jvm.Cond.instanceMethod ⟨"EchoGorge$Verses","thickestFog","(ILEchoGorge$Hearing;LEchoGorge$Returns;)I"⟩) : Cond) ∈ GW := tw5 (List.mem_of_getElem? (i := 129) rfl) rfl
theorem wd1090 : ((Jvm.Cond.selects "EchoGorge$Verses" ⟨"EchoGorge$Verses","thickestFog","(ILEchoGorge$Hearing;LEchoGorge$Returns;)I"⟩ ⟨"EchoGorge$Verses","thickestFog","(ILEchoGorge$Hearing;LEchoGorge$Returns;)I"⟩) : Cond) ∈ GW := tw5 (List.mem_of_getElem? (i := 130) rfl) rfl
theorem wd1091 : ((Jvm.Cond.code ⟨"EchoGorge$Verses","thickestFog","(ILEchoGorge$Hearing;LEchoGorge$Returns;)I"⟩ prog_12_method_19_code 5 (Option.some Jvm.ClassFile.FieldType.int)) : Cond) ∈ GW := tw5 (List.mem_of_getElem? (i := 131) rfl) rfl
theorem wd1092 : ((Jvm.Cond.methodLink "EchoGorge$Verses" 163 ⟨"EchoGorge$Verses","searchFog","(ILEchoGorge$Hearing;LEchoGorge$Returns;)I"⟩) : Cond) ∈ GW := tw5 (List.mem_of_getElem? (i := 132) rfl) rfl
theorem wd1094 : ((Jvm.Cond.instanceMethod ⟨"EchoGorge$Verses","searchFog","(ILEchoGorge$Hearing;LEchoGorge$Returns;)I"⟩) : Cond) ∈ GW := tw5 (List.mem_of_getElem? (i := 134) rfl) rfl
theorem wd1095 : ((Jvm.Cond.code ⟨"EchoGorge$Verses","searchFog","(ILEchoGorge$Hearing;LEchoGorge$Returns;)I"⟩ prog_12_method_20_code 5 (Option.some Jvm.ClassFile.FieldType.int)) : Cond) ∈ GW := tw5 (List.mem_of_getElem? (i := 135) rfl) rfl
theorem wd1096 : ((Jvm.Cond.methodLink "EchoGorge$Verses" 167 ⟨"EchoGorge$Verses","changesShares","(I)Z"⟩) : Cond) ∈ GW := tw5 (List.mem_of_getElem? (i := 136) rfl) rfl
theorem wd1098 : ((Jvm.Cond.instanceMethod ⟨"EchoGorge$Verses","changesShares","(I)Z"⟩) : Cond) ∈ GW := tw5 (List.mem_of_getElem? (i := 138) rfl) rfl
theorem wd1099 : ((Jvm.Cond.code ⟨"EchoGorge$Verses","changesShares","(I)Z"⟩ prog_12_method_21_code 3 (Option.some Jvm.ClassFile.FieldType.boolean)) : Cond) ∈ GW := tw5 (List.mem_of_getElem? (i := 139) rfl) rfl
theorem wd1100 : ((Jvm.Cond.methodLink "EchoGorge$Verses" 183 ⟨"EchoGorge$Gorge","foggedShare","(II)I"⟩) : Cond) ∈ GW := tw5 (List.mem_of_getElem? (i := 140) rfl) rfl
theorem wd1101 : ((Jvm.Cond.methodLink "EchoGorge$Verses" 173 ⟨"EchoGorge$Returns","canReach","(I)Z"⟩) : Cond) ∈ GW := tw5 (List.mem_of_getElem? (i := 141) rfl) rfl
theorem wd1102 : ((Jvm.Cond.instanceMethod ⟨"EchoGorge$Returns","canReach","(I)Z"⟩) : Cond) ∈ GW := tw5 (List.mem_of_getElem? (i := 142) rfl) rfl
theorem wd1103 : ((Jvm.Cond.selects "EchoGorge$Returns" ⟨"EchoGorge$Returns","canReach","(I)Z"⟩ ⟨"EchoGorge$Returns","canReach","(I)Z"⟩) : Cond) ∈ GW := tw5 (List.mem_of_getElem? (i := 143) rfl) rfl
theorem wd1104 : ((Jvm.Cond.code ⟨"EchoGorge$Returns","canReach","(I)Z"⟩ prog_9_method_7_code 5 (Option.some Jvm.ClassFile.FieldType.boolean)) : Cond) ∈ GW := tw5 (List.mem_of_getElem? (i := 144) rfl) rfl
theorem wd1105 : ((Jvm.Cond.methodLink "EchoGorge$Verses" 176 ⟨"EchoGorge$Verses","countStill","(ILEchoGorge$Hearing;LEchoGorge$Returns;I)I"⟩) : Cond) ∈ GW := tw5 (List.mem_of_getElem? (i := 145) rfl) rfl
theorem wd1106 : ((Jvm.Cond.methodLink "EchoGorgeLaw" 144 ⟨"EchoGorgeLaw","sing","(LEchoGorge;II[J)I"⟩) : Cond) ∈ GW := tw5 (List.mem_of_getElem? (i := 146) rfl) rfl
theorem wd1107 : ((Jvm.Cond.static ⟨"EchoGorgeLaw","sing","(LEchoGorge;II[J)I"⟩) : Cond) ∈ GW := tw5 (List.mem_of_getElem? (i := 147) rfl) rfl
theorem wd1108 : ((Jvm.Cond.codeWith ⟨"EchoGorgeLaw","sing","(LEchoGorge;II[J)I"⟩ method_15_code 5 (Option.some Jvm.ClassFile.FieldType.int) [(0, 10, 13, 18)]) : Cond) ∈ GW := tw5 (List.mem_of_getElem? (i := 148) rfl) rfl
theorem wd1109 : ((Jvm.Cond.methodLink "EchoGorgeLaw" 53 ⟨"EchoGorge","sing","(II)I"⟩) : Cond) ∈ GW := tw5 (List.mem_of_getElem? (i := 149) rfl) rfl
theorem wd1110 : ((Jvm.Cond.instanceMethod ⟨"EchoGorge","sing","(II)I"⟩) : Cond) ∈ GW := tw5 (List.mem_of_getElem? (i := 150) rfl) rfl
theorem wd1111 : ((Jvm.Cond.selects "EchoGorge" ⟨"EchoGorge","sing","(II)I"⟩ ⟨"EchoGorge","sing","(II)I"⟩) : Cond) ∈ GW := tw5 (List.mem_of_getElem? (i := 151) rfl) rfl
theorem wd1112 : ((Jvm.Cond.code ⟨"EchoGorge","sing","(II)I"⟩ prog_1_method_18_code 3 (Option.some Jvm.ClassFile.FieldType.int)) : Cond) ∈ GW := tw5 (List.mem_of_getElem? (i := 152) rfl) rfl
theorem wd1113 : ((Jvm.Cond.methodLink "EchoGorgeLaw" 147 ⟨"EchoGorgeLaw","round","(LEchoGorge;I[J)I"⟩) : Cond) ∈ GW := tw5 (List.mem_of_getElem? (i := 153) rfl) rfl
theorem wd1114 : ((Jvm.Cond.static ⟨"EchoGorgeLaw","round","(LEchoGorge;I[J)I"⟩) : Cond) ∈ GW := tw5 (List.mem_of_getElem? (i := 154) rfl) rfl
theorem wd1115 : ((Jvm.Cond.codeWith ⟨"EchoGorgeLaw","round","(LEchoGorge;I[J)I"⟩ method_16_code 4 (Option.some Jvm.ClassFile.FieldType.int) [(0, 9, 12, 18)]) : Cond) ∈ GW := tw5 (List.mem_of_getElem? (i := 155) rfl) rfl
theorem wd1116 : ((Jvm.Cond.methodLink "EchoGorgeLaw" 56 ⟨"EchoGorge","round","(I)I"⟩) : Cond) ∈ GW := tw5 (List.mem_of_getElem? (i := 156) rfl) rfl
theorem wd1117 : ((Jvm.Cond.instanceMethod ⟨"EchoGorge","round","(I)I"⟩) : Cond) ∈ GW := tw5 (List.mem_of_getElem? (i := 157) rfl) rfl
theorem wd1118 : ((Jvm.Cond.selects "EchoGorge" ⟨"EchoGorge","round","(I)I"⟩ ⟨"EchoGorge","round","(I)I"⟩) : Cond) ∈ GW := tw5 (List.mem_of_getElem? (i := 158) rfl) rfl
theorem wd1119 : ((Jvm.Cond.code ⟨"EchoGorge","round","(I)I"⟩ prog_1_method_19_code 2 (Option.some Jvm.ClassFile.FieldType.int)) : Cond) ∈ GW := tw5 (List.mem_of_getElem? (i := 159) rfl) rfl
theorem wd1120 : ((Jvm.Cond.methodLink "EchoGorge" 262 ⟨"EchoGorge$Chant","clashes","(LEchoGorge$Gorge;LEchoGorge$Returns;LEchoGorge$Scene;I)I"⟩) : Cond) ∈ GW := tw5 (List.mem_of_getElem? (i := 160) rfl) rfl
theorem wd1121 : ((Jvm.Cond.instanceMethod ⟨"EchoGorge$Chant","clashes","(LEchoGorge$Gorge;LEchoGorge$Returns;LEchoGorge$Scene;I)I"⟩) : Cond) ∈ GW := tw5 (List.mem_of_getElem? (i := 161) rfl) rfl
theorem wd1122 : ((Jvm.Cond.selects "EchoGorge$Chant" ⟨"EchoGorge$Chant","clashes","(LEchoGorge$Gorge;LEchoGorge$Returns;LEchoGorge$Scene;I)I"⟩ ⟨"EchoGorge$Chant","clashes","(LEchoGorge$Gorge;LEchoGorge$Returns;LEchoGorge$Scene;I)I"⟩) : Cond) ∈ GW := tw5 (List.mem_of_getElem? (i := 162) rfl) rfl
theorem wd1123 : ((Jvm.Cond.code ⟨"EchoGorge$Chant","clashes","(LEchoGorge$Gorge;LEchoGorge$Returns;LEchoGorge$Scene;I)I"⟩ prog_2_method_2_code 7 (Option.some Jvm.ClassFile.FieldType.int)) : Cond) ∈ GW := tw5 (List.mem_of_getElem? (i := 163) rfl) rfl
theorem wd1124 : ((Jvm.Cond.methodLink "EchoGorge$Chant" 15 ⟨"EchoGorge$Chant","listen","(LEchoGorge$Gorge;LEchoGorge$Returns;LEchoGorge$Scene;II)I"⟩) : Cond) ∈ GW := tw5 (List.mem_of_getElem? (i := 164) rfl) rfl
theorem wd1126 : ((Jvm.Cond.instanceMethod ⟨"EchoGorge$Chant","listen","(LEchoGorge$Gorge;LEchoGorge$Returns;LEchoGorge$Scene;II)I"⟩) : Cond) ∈ GW := tw5 (List.mem_of_getElem? (i := 166) rfl) rfl
theorem wd1127 : ((Jvm.Cond.code ⟨"EchoGorge$Chant","listen","(LEchoGorge$Gorge;LEchoGorge$Returns;LEchoGorge$Scene;II)I"⟩ prog_2_method_4_code 9 (Option.some Jvm.ClassFile.FieldType.int)) : Cond) ∈ GW := tw5 (List.mem_of_getElem? (i := 167) rfl) rfl
theorem wd1128 : ((Jvm.Cond.methodLink "EchoGorge$Chant" 33 ⟨"java/util/Arrays","fill","([II)V"⟩) : Cond) ∈ GW := tw5 (List.mem_of_getElem? (i := 168) rfl) rfl
theorem wd1129 : ((Jvm.Cond.methodLink "EchoGorge$Chant" 47 ⟨"java/lang/Math","floorMod","(II)I"⟩) : Cond) ∈ GW := tw5 (List.mem_of_getElem? (i := 169) rfl) rfl
theorem wd1130 : ((Jvm.Cond.static ⟨"java/lang/Math","floorMod","(II)I"⟩) : Cond) ∈ GW := tw5 (List.mem_of_getElem? (i := 170) rfl) rfl
theorem wd1131 : ((Jvm.Cond.code ⟨"java/lang/Math","floorMod","(II)I"⟩ prog_21_method_50_code 3 (Option.some Jvm.ClassFile.FieldType.int)) : Cond) ∈ GW := tw5 (List.mem_of_getElem? (i := 171) rfl) rfl
theorem wd1132 : ((Jvm.Cond.methodLink "EchoGorge$Chant" 19 ⟨"EchoGorge$Chant","isClash","(LEchoGorge$Gorge;I)Z"⟩) : Cond) ∈ GW := tw5 (List.mem_of_getElem? (i := 172) rfl) rfl
theorem wd1133 : ((Jvm.Cond.static ⟨"EchoGorge$Chant","isClash","(LEchoGorge$Gorge;I)Z"⟩) : Cond) ∈ GW := tw5 (List.mem_of_getElem? (i := 173) rfl) rfl
theorem wd1134 : ((Jvm.Cond.code ⟨"EchoGorge$Chant","isClash","(LEchoGorge$Gorge;I)Z"⟩ prog_2_method_5_code 4 (Option.some Jvm.ClassFile.FieldType.boolean)) : Cond) ∈ GW := tw5 (List.mem_of_getElem? (i := 174) rfl) rfl
theorem wd1136 : ((Jvm.Cond.methodLink "EchoGorge" 266 ⟨"EchoGorge$Chant","rests","(LEchoGorge$Gorge;LEchoGorge$Returns;LEchoGorge$Scene;)I"⟩) : Cond) ∈ GW := tw5 (List.mem_of_getElem? (i := 176) rfl) rfl
theorem wd1137 : ((Jvm.Cond.instanceMethod ⟨"EchoGorge$Chant","rests","(LEchoGorge$Gorge;LEchoGorge$Returns;LEchoGorge$Scene;)I"⟩) : Cond) ∈ GW := tw5 (List.mem_of_getElem? (i := 177) rfl) rfl
theorem wd1138 : ((Jvm.Cond.selects "EchoGorge$Chant" ⟨"EchoGorge$Chant","rests","(LEchoGorge$Gorge;LEchoGorge$Returns;LEchoGorge$Scene;)I"⟩ ⟨"EchoGorge$Chant","rests","(LEchoGorge$Gorge;LEchoGorge$Returns;LEchoGorge$Scene;)I"⟩) : Cond) ∈ GW := tw5 (List.mem_of_getElem? (i := 178) rfl) rfl
theorem wd1139 : ((Jvm.Cond.code ⟨"EchoGorge$Chant","rests","(LEchoGorge$Gorge;LEchoGorge$Returns;LEchoGorge$Scene;)I"⟩ prog_2_method_3_code 5 (Option.some Jvm.ClassFile.FieldType.int)) : Cond) ∈ GW := tw5 (List.mem_of_getElem? (i := 179) rfl) rfl
theorem wd1140 : ((Jvm.Cond.methodLink "EchoGorge$Chant" 29 ⟨"EchoGorge$Chant","clashes","(LEchoGorge$Gorge;LEchoGorge$Returns;LEchoGorge$Scene;I)I"⟩) : Cond) ∈ GW := tw5 (List.mem_of_getElem? (i := 180) rfl) rfl
theorem wd1141 : ((Jvm.Cond.methodLink "EchoGorgeLaw" 150 ⟨"EchoGorgeLaw","tell","(LEchoGorge;I[J)I"⟩) : Cond) ∈ GW := tw5 (List.mem_of_getElem? (i := 181) rfl) rfl
theorem wd1142 : ((Jvm.Cond.static ⟨"EchoGorgeLaw","tell","(LEchoGorge;I[J)I"⟩) : Cond) ∈ GW := tw5 (List.mem_of_getElem? (i := 182) rfl) rfl
theorem wd1143 : ((Jvm.Cond.codeWith ⟨"EchoGorgeLaw","tell","(LEchoGorge;I[J)I"⟩ method_17_code 4 (Option.some Jvm.ClassFile.FieldType.int) [(0, 9, 12, 18)]) : Cond) ∈ GW := tw5 (List.mem_of_getElem? (i := 183) rfl) rfl
theorem wd1144 : ((Jvm.Cond.methodLink "EchoGorgeLaw" 59 ⟨"EchoGorge","tell","(I)I"⟩) : Cond) ∈ GW := tw5 (List.mem_of_getElem? (i := 184) rfl) rfl
theorem wd1145 : ((Jvm.Cond.instanceMethod ⟨"EchoGorge","tell","(I)I"⟩) : Cond) ∈ GW := tw5 (List.mem_of_getElem? (i := 185) rfl) rfl
theorem wd1146 : ((Jvm.Cond.selects "EchoGorge" ⟨"EchoGorge","tell","(I)I"⟩ ⟨"EchoGorge","tell","(I)I"⟩) : Cond) ∈ GW := tw5 (List.mem_of_getElem? (i := 186) rfl) rfl
theorem wd1147 : ((Jvm.Cond.code ⟨"EchoGorge","tell","(I)I"⟩ prog_1_method_20_code 2 (Option.some Jvm.ClassFile.FieldType.int)) : Cond) ∈ GW := tw5 (List.mem_of_getElem? (i := 187) rfl) rfl
theorem wd1148 : ((Jvm.Cond.methodLink "EchoGorgeLaw" 157 ⟨"EchoGorgeLaw","rivals","(LEchoGorge;II[J)I"⟩) : Cond) ∈ GW := tw5 (List.mem_of_getElem? (i := 188) rfl) rfl
theorem wd1149 : ((Jvm.Cond.static ⟨"EchoGorgeLaw","rivals","(LEchoGorge;II[J)I"⟩) : Cond) ∈ GW := tw5 (List.mem_of_getElem? (i := 189) rfl) rfl
theorem wd1150 : ((Jvm.Cond.codeWith ⟨"EchoGorgeLaw","rivals","(LEchoGorge;II[J)I"⟩ method_18_code 5 (Option.some Jvm.ClassFile.FieldType.int) [(0, 10, 13, 18), (0, 10, 17, 13)]) : Cond) ∈ GW := tw5 (List.mem_of_getElem? (i := 190) rfl) rfl
theorem wd1151 : ((Jvm.Cond.methodLink "EchoGorgeLaw" 62 ⟨"EchoGorge","rivals","(II)I"⟩) : Cond) ∈ GW := tw5 (List.mem_of_getElem? (i := 191) rfl) rfl
theorem wd1152 : ((Jvm.Cond.instanceMethod ⟨"EchoGorge","rivals","(II)I"⟩) : Cond) ∈ GW := tw5 (List.mem_of_getElem? (i := 192) rfl) rfl
theorem wd1153 : ((Jvm.Cond.selects "EchoGorge" ⟨"EchoGorge","rivals","(II)I"⟩ ⟨"EchoGorge","rivals","(II)I"⟩) : Cond) ∈ GW := tw5 (List.mem_of_getElem? (i := 193) rfl) rfl
theorem wd1154 : ((Jvm.Cond.code ⟨"EchoGorge","rivals","(II)I"⟩ prog_1_method_22_code 3 (Option.some Jvm.ClassFile.FieldType.int)) : Cond) ∈ GW := tw5 (List.mem_of_getElem? (i := 194) rfl) rfl
theorem wd1155 : ((Jvm.Cond.methodLink "EchoGorge" 276 ⟨"EchoGorge$Guess","find","(LEchoGorge$Gorge;LEchoGorge$Scene;LEchoGorge$Hearing;I)V"⟩) : Cond) ∈ GW := tw5 (List.mem_of_getElem? (i := 195) rfl) rfl
theorem wd1156 : ((Jvm.Cond.instanceMethod ⟨"EchoGorge$Guess","find","(LEchoGorge$Gorge;LEchoGorge$Scene;LEchoGorge$Hearing;I)V"⟩) : Cond) ∈ GW := tw5 (List.mem_of_getElem? (i := 196) rfl) rfl
theorem wd1157 : ((Jvm.Cond.selects "EchoGorge$Guess" ⟨"EchoGorge$Guess","find","(LEchoGorge$Gorge;LEchoGorge$Scene;LEchoGorge$Hearing;I)V"⟩ ⟨"EchoGorge$Guess","find","(LEchoGorge$Gorge;LEchoGorge$Scene;LEchoGorge$Hearing;I)V"⟩) : Cond) ∈ GW := tw5 (List.mem_of_getElem? (i := 197) rfl) rfl
theorem wd1158 : ((Jvm.Cond.code ⟨"EchoGorge$Guess","find","(LEchoGorge$Gorge;LEchoGorge$Scene;LEchoGorge$Hearing;I)V"⟩ prog_5_method_3_code 5 (Option.none : Option Jvm.ClassFile.FieldType)) : Cond) ∈ GW := tw5 (List.mem_of_getElem? (i := 198) rfl) rfl
theorem wd1159 : ((Jvm.Cond.methodLink "EchoGorge$Guess" 38 ⟨"EchoGorge$Returns","prepareLike","(LEchoGorge$Gorge;II)V"⟩) : Cond) ∈ GW := tw5 (List.mem_of_getElem? (i := 199) rfl) rfl
theorem wd1160 : ((Jvm.Cond.instanceMethod ⟨"EchoGorge$Returns","prepareLike","(LEchoGorge$Gorge;II)V"⟩) : Cond) ∈ GW := tw5 (List.mem_of_getElem? (i := 200) rfl) rfl
theorem wd1161 : ((Jvm.Cond.selects "EchoGorge$Returns" ⟨"EchoGorge$Returns","prepareLike","(LEchoGorge$Gorge;II)V"⟩ ⟨"EchoGorge$Returns","prepareLike","(LEchoGorge$Gorge;II)V"⟩) : Cond) ∈ GW := tw5 (List.mem_of_getElem? (i := 201) rfl) rfl
theorem wd1162 : ((Jvm.Cond.code ⟨"EchoGorge$Returns","prepareLike","(LEchoGorge$Gorge;II)V"⟩ prog_9_method_8_code 7 (Option.none : Option Jvm.ClassFile.FieldType)) : Cond) ∈ GW := tw5 (List.mem_of_getElem? (i := 202) rfl) rfl
theorem wd1163 : ((Jvm.Cond.methodLink "EchoGorge$Guess" 42 ⟨"EchoGorge$Guess","searchAll","(LEchoGorge$Gorge;LEchoGorge$Scene;LEchoGorge$Hearing;)V"⟩) : Cond) ∈ GW := tw5 (List.mem_of_getElem? (i := 203) rfl) rfl
theorem wd1165 : ((Jvm.Cond.instanceMethod ⟨"EchoGorge$Guess","searchAll","(LEchoGorge$Gorge;LEchoGorge$Scene;LEchoGorge$Hearing;)V"⟩) : Cond) ∈ GW := tw5 (List.mem_of_getElem? (i := 205) rfl) rfl
theorem wd1166 : ((Jvm.Cond.code ⟨"EchoGorge$Guess","searchAll","(LEchoGorge$Gorge;LEchoGorge$Scene;LEchoGorge$Hearing;)V"⟩ prog_5_method_4_code 9 (Option.none : Option Jvm.ClassFile.FieldType)) : Cond) ∈ GW := tw5 (List.mem_of_getElem? (i := 206) rfl) rfl
theorem wd1167 : ((Jvm.Cond.methodLink "EchoGorge$Guess" 50 ⟨"java/lang/Math","max","(II)I"⟩) : Cond) ∈ GW := tw5 (List.mem_of_getElem? (i := 207) rfl) rfl
theorem wd1168 : ((Jvm.Cond.methodLink "EchoGorge$Guess" 56 ⟨"EchoGorge$Returns","layDelays","(III)V"⟩) : Cond) ∈ GW := tw5 (List.mem_of_getElem? (i := 208) rfl) rfl
theorem wd1169 : ((Jvm.Cond.instanceMethod ⟨"EchoGorge$Returns","layDelays","(III)V"⟩) : Cond) ∈ GW := tw5 (List.mem_of_getElem? (i := 209) rfl) rfl
theorem wd1170 : ((Jvm.Cond.selects "EchoGorge$Returns" ⟨"EchoGorge$Returns","layDelays","(III)V"⟩ ⟨"EchoGorge$Returns","layDelays","(III)V"⟩) : Cond) ∈ GW := tw5 (List.mem_of_getElem? (i := 210) rfl) rfl
theorem wd1171 : ((Jvm.Cond.code ⟨"EchoGorge$Returns","layDelays","(III)V"⟩ prog_9_method_9_code 4 (Option.none : Option Jvm.ClassFile.FieldType)) : Cond) ∈ GW := tw5 (List.mem_of_getElem? (i := 211) rfl) rfl
theorem wd1172 : ((Jvm.Cond.methodLink "EchoGorge$Guess" 60 ⟨"EchoGorge$Guess","firstMiss","(LEchoGorge$Gorge;LEchoGorge$Scene;LEchoGorge$Hearing;)I"⟩) : Cond) ∈ GW := tw5 (List.mem_of_getElem? (i := 212) rfl) rfl
theorem wd1174 : ((Jvm.Cond.instanceMethod ⟨"EchoGorge$Guess","firstMiss","(LEchoGorge$Gorge;LEchoGorge$Scene;LEchoGorge$Hearing;)I"⟩) : Cond) ∈ GW := tw5 (List.mem_of_getElem? (i := 214) rfl) rfl
theorem wd1175 : ((Jvm.Cond.code ⟨"EchoGorge$Guess","firstMiss","(LEchoGorge$Gorge;LEchoGorge$Scene;LEchoGorge$Hearing;)I"⟩ prog_5_method_5_code 5 (Option.some Jvm.ClassFile.FieldType.int)) : Cond) ∈ GW := tw5 (List.mem_of_getElem? (i := 215) rfl) rfl
theorem wd1176 : ((Jvm.Cond.methodLink "EchoGorge$Guess" 76 ⟨"EchoGorge$Hearing","attend","(LEchoGorge$Gorge;LEchoGorge$Returns;[II)V"⟩) : Cond) ∈ GW := tw5 (List.mem_of_getElem? (i := 216) rfl) rfl
theorem wd1177 : ((Jvm.Cond.methodLink "EchoGorge$Guess" 82 ⟨"EchoGorge$Hearing","measure","(I)V"⟩) : Cond) ∈ GW := tw5 (List.mem_of_getElem? (i := 217) rfl) rfl
theorem wd1178 : ((Jvm.Cond.methodLink "EchoGorge$Guess" 86 ⟨"EchoGorge$Hearing","hears","(I)I"⟩) : Cond) ∈ GW := tw5 (List.mem_of_getElem? (i := 218) rfl) rfl
theorem wd1179 : ((Jvm.Cond.methodLink "EchoGorge$Guess" 67 ⟨"EchoGorge$Guess","take","(II)V"⟩) : Cond) ∈ GW := tw5 (List.mem_of_getElem? (i := 219) rfl) rfl
theorem wd1181 : ((Jvm.Cond.instanceMethod ⟨"EchoGorge$Guess","take","(II)V"⟩) : Cond) ∈ GW := tw5 (List.mem_of_getElem? (i := 221) rfl) rfl
theorem wd1182 : ((Jvm.Cond.code ⟨"EchoGorge$Guess","take","(II)V"⟩ prog_5_method_6_code 5 (Option.none : Option Jvm.ClassFile.FieldType)) : Cond) ∈ GW := tw5 (List.mem_of_getElem? (i := 222) rfl) rfl
theorem wd1183 : ((Jvm.Cond.methodLink "EchoGorge$Guess" 93 ⟨"java/lang/Integer","bitCount","(I)I"⟩) : Cond) ∈ GW := tw5 (List.mem_of_getElem? (i := 223) rfl) rfl
theorem wd1184 : ((Jvm.Cond.methodLink "EchoGorge$Guess" 46 ⟨"EchoGorge$Guess","findNext","(LEchoGorge$Gorge;)V"⟩) : Cond) ∈ GW := tw5 (List.mem_of_getElem? (i := 224) rfl) rfl
theorem wd1186 : ((Jvm.Cond.instanceMethod ⟨"EchoGorge$Guess","findNext","(LEchoGorge$Gorge;)V"⟩) : Cond) ∈ GW := tw5 (List.mem_of_getElem? (i := 226) rfl) rfl
theorem wd1187 : ((Jvm.Cond.code ⟨"EchoGorge$Guess","findNext","(LEchoGorge$Gorge;)V"⟩ prog_5_method_7_code 4 (Option.none : Option Jvm.ClassFile.FieldType)) : Cond) ∈ GW := tw5 (List.mem_of_getElem? (i := 227) rfl) rfl
theorem wd1188 : ((Jvm.Cond.methodLink "EchoGorge$Guess" 110 ⟨"EchoGorge$Guess","greatestGroup","(LEchoGorge$Gorge;I)I"⟩) : Cond) ∈ GW := tw5 (List.mem_of_getElem? (i := 228) rfl) rfl
theorem wd1190 : ((Jvm.Cond.instanceMethod ⟨"EchoGorge$Guess","greatestGroup","(LEchoGorge$Gorge;I)I"⟩) : Cond) ∈ GW := tw5 (List.mem_of_getElem? (i := 230) rfl) rfl
theorem wd1191 : ((Jvm.Cond.code ⟨"EchoGorge$Guess","greatestGroup","(LEchoGorge$Gorge;I)I"⟩ prog_5_method_8_code 4 (Option.some Jvm.ClassFile.FieldType.int)) : Cond) ∈ GW := tw5 (List.mem_of_getElem? (i := 231) rfl) rfl
theorem wd1192 : ((Jvm.Cond.methodLink "EchoGorgeLaw" 160 ⟨"EchoGorgeLaw","sayers","(LEchoGorge;I[J)I"⟩) : Cond) ∈ GW := tw5 (List.mem_of_getElem? (i := 232) rfl) rfl
theorem wd1193 : ((Jvm.Cond.static ⟨"EchoGorgeLaw","sayers","(LEchoGorge;I[J)I"⟩) : Cond) ∈ GW := tw5 (List.mem_of_getElem? (i := 233) rfl) rfl
theorem wd1194 : ((Jvm.Cond.codeWith ⟨"EchoGorgeLaw","sayers","(LEchoGorge;I[J)I"⟩ method_19_code 4 (Option.some Jvm.ClassFile.FieldType.int) [(0, 9, 12, 18)]) : Cond) ∈ GW := tw5 (List.mem_of_getElem? (i := 234) rfl) rfl
theorem wd1195 : ((Jvm.Cond.methodLink "EchoGorgeLaw" 65 ⟨"EchoGorge","sayers","(I)I"⟩) : Cond) ∈ GW := tw5 (List.mem_of_getElem? (i := 235) rfl) rfl
theorem wd1196 : ((Jvm.Cond.instanceMethod ⟨"EchoGorge","sayers","(I)I"⟩) : Cond) ∈ GW := tw5 (List.mem_of_getElem? (i := 236) rfl) rfl
theorem wd1197 : ((Jvm.Cond.selects "EchoGorge" ⟨"EchoGorge","sayers","(I)I"⟩ ⟨"EchoGorge","sayers","(I)I"⟩) : Cond) ∈ GW := tw5 (List.mem_of_getElem? (i := 237) rfl) rfl
theorem wd1198 : ((Jvm.Cond.code ⟨"EchoGorge","sayers","(I)I"⟩ prog_1_method_23_code 2 (Option.some Jvm.ClassFile.FieldType.int)) : Cond) ∈ GW := tw5 (List.mem_of_getElem? (i := 238) rfl) rfl
theorem wd1199 : ((Jvm.Cond.methodLink "EchoGorge" 283 ⟨"EchoGorge$Truth","find","(LEchoGorge$Gorge;LEchoGorge$Scene;LEchoGorge$Hearing;LEchoGorge$Returns;)V"⟩) : Cond) ∈ GW := tw5 (List.mem_of_getElem? (i := 239) rfl) rfl
theorem wd1200 : ((Jvm.Cond.instanceMethod ⟨"EchoGorge$Truth","find","(LEchoGorge$Gorge;LEchoGorge$Scene;LEchoGorge$Hearing;LEchoGorge$Returns;)V"⟩) : Cond) ∈ GW := tw6 (List.mem_of_getElem? (i := 0) rfl) rfl
theorem wd1201 : ((Jvm.Cond.selects "EchoGorge$Truth" ⟨"EchoGorge$Truth","find","(LEchoGorge$Gorge;LEchoGorge$Scene;LEchoGorge$Hearing;LEchoGorge$Returns;)V"⟩ ⟨"EchoGorge$Truth","find","(LEchoGorge$Gorge;LEchoGorge$Scene;LEchoGorge$Hearing;LEchoGorge$Returns;)V"⟩) : Cond) ∈ GW := tw6 (List.mem_of_getElem? (i := 1) rfl) rfl
theorem wd1202 : ((Jvm.Cond.code ⟨"EchoGorge$Truth","find","(LEchoGorge$Gorge;LEchoGorge$Scene;LEchoGorge$Hearing;LEchoGorge$Returns;)V"⟩ prog_11_method_3_code 6 (Option.none : Option Jvm.ClassFile.FieldType)) : Cond) ∈ GW := tw6 (List.mem_of_getElem? (i := 2) rfl) rfl
theorem wd1203 : ((Jvm.Cond.methodLink "EchoGorge$Truth" 41 ⟨"java/util/Arrays","fill","([II)V"⟩) : Cond) ∈ GW := tw6 (List.mem_of_getElem? (i := 3) rfl) rfl
theorem wd1204 : ((Jvm.Cond.methodLink "EchoGorge$Truth" 56 ⟨"EchoGorge$Truth","isHeardAsTold","(III)Z"⟩) : Cond) ∈ GW := tw6 (List.mem_of_getElem? (i := 4) rfl) rfl
theorem wd1206 : ((Jvm.Cond.instanceMethod ⟨"EchoGorge$Truth","isHeardAsTold","(III)Z"⟩) : Cond) ∈ GW := tw6 (List.mem_of_getElem? (i := 6) rfl) rfl
theorem wd1207 : ((Jvm.Cond.code ⟨"EchoGorge$Truth","isHeardAsTold","(III)Z"⟩ prog_11_method_5_code 5 (Option.some Jvm.ClassFile.FieldType.boolean)) : Cond) ∈ GW := tw6 (List.mem_of_getElem? (i := 7) rfl) rfl
theorem wd1208 : ((Jvm.Cond.methodLink "EchoGorge$Truth" 74 ⟨"EchoGorge$Hearing","attend","(LEchoGorge$Gorge;LEchoGorge$Returns;[II)V"⟩) : Cond) ∈ GW := tw6 (List.mem_of_getElem? (i := 8) rfl) rfl
theorem wd1209 : ((Jvm.Cond.methodLink "EchoGorge$Truth" 80 ⟨"EchoGorge$Hearing","measure","(I)V"⟩) : Cond) ∈ GW := tw6 (List.mem_of_getElem? (i := 9) rfl) rfl
theorem wd1210 : ((Jvm.Cond.methodLink "EchoGorge$Truth" 83 ⟨"EchoGorge$Hearing","hears","(I)I"⟩) : Cond) ∈ GW := tw6 (List.mem_of_getElem? (i := 10) rfl) rfl
theorem wd1211 : ((Jvm.Cond.methodLink "EchoGorge$Truth" 60 ⟨"EchoGorge$Truth","search","(III)V"⟩) : Cond) ∈ GW := tw6 (List.mem_of_getElem? (i := 11) rfl) rfl
theorem wd1213 : ((Jvm.Cond.instanceMethod ⟨"EchoGorge$Truth","search","(III)V"⟩) : Cond) ∈ GW := tw6 (List.mem_of_getElem? (i := 13) rfl) rfl
theorem wd1214 : ((Jvm.Cond.code ⟨"EchoGorge$Truth","search","(III)V"⟩ prog_11_method_4_code 6 (Option.none : Option Jvm.ClassFile.FieldType)) : Cond) ∈ GW := tw6 (List.mem_of_getElem? (i := 14) rfl) rfl
theorem wd1215 : ((Jvm.Cond.methodLink "EchoGorge$Truth" 64 ⟨"EchoGorge$Truth","take","(I)V"⟩) : Cond) ∈ GW := tw6 (List.mem_of_getElem? (i := 15) rfl) rfl
theorem wd1217 : ((Jvm.Cond.instanceMethod ⟨"EchoGorge$Truth","take","(I)V"⟩) : Cond) ∈ GW := tw6 (List.mem_of_getElem? (i := 17) rfl) rfl
theorem wd1218 : ((Jvm.Cond.code ⟨"EchoGorge$Truth","take","(I)V"⟩ prog_11_method_6_code 3 (Option.none : Option Jvm.ClassFile.FieldType)) : Cond) ∈ GW := tw6 (List.mem_of_getElem? (i := 18) rfl) rfl
theorem wd1219 : ((Jvm.Cond.methodLink "EchoGorge$Truth" 87 ⟨"java/lang/Integer","bitCount","(I)I"⟩) : Cond) ∈ GW := tw6 (List.mem_of_getElem? (i := 19) rfl) rfl
theorem wd1220 : ((Jvm.Cond.methodLink "EchoGorge$Truth" 68 ⟨"java/lang/Math","max","(II)I"⟩) : Cond) ∈ GW := tw6 (List.mem_of_getElem? (i := 20) rfl) rfl
theorem wd1221 : ((Jvm.Cond.methodLink "EchoGorgeLaw" 163 ⟨"EchoGorgeLaw","stand","(LEchoGorge;III[J)I"⟩) : Cond) ∈ GW := tw6 (List.mem_of_getElem? (i := 21) rfl) rfl
theorem wd1222 : ((Jvm.Cond.static ⟨"EchoGorgeLaw","stand","(LEchoGorge;III[J)I"⟩) : Cond) ∈ GW := tw6 (List.mem_of_getElem? (i := 22) rfl) rfl
theorem wd1223 : ((Jvm.Cond.codeWith ⟨"EchoGorgeLaw","stand","(LEchoGorge;III[J)I"⟩ method_20_code 6 (Option.some Jvm.ClassFile.FieldType.int) [(0, 19, 22, 18)]) : Cond) ∈ GW := tw6 (List.mem_of_getElem? (i := 23) rfl) rfl
theorem wd1224 : ((Jvm.Cond.methodLink "EchoGorgeLaw" 68 ⟨"EchoGorge","stand","(III)Z"⟩) : Cond) ∈ GW := tw6 (List.mem_of_getElem? (i := 24) rfl) rfl
theorem wd1225 : ((Jvm.Cond.instanceMethod ⟨"EchoGorge","stand","(III)Z"⟩) : Cond) ∈ GW := tw6 (List.mem_of_getElem? (i := 25) rfl) rfl
theorem wd1226 : ((Jvm.Cond.selects "EchoGorge" ⟨"EchoGorge","stand","(III)Z"⟩ ⟨"EchoGorge","stand","(III)Z"⟩) : Cond) ∈ GW := tw6 (List.mem_of_getElem? (i := 26) rfl) rfl
theorem wd1227 : ((Jvm.Cond.code ⟨"EchoGorge","stand","(III)Z"⟩ prog_1_method_24_code 4 (Option.some Jvm.ClassFile.FieldType.boolean)) : Cond) ∈ GW := tw6 (List.mem_of_getElem? (i := 27) rfl) rfl
theorem wd1228 : ((Jvm.Cond.methodLink "EchoGorgeLaw" 166 ⟨"EchoGorgeLaw","matching","(LEchoGorge;III[J)I"⟩) : Cond) ∈ GW := tw6 (List.mem_of_getElem? (i := 28) rfl) rfl
theorem wd1229 : ((Jvm.Cond.static ⟨"EchoGorgeLaw","matching","(LEchoGorge;III[J)I"⟩) : Cond) ∈ GW := tw6 (List.mem_of_getElem? (i := 29) rfl) rfl
theorem wd1230 : ((Jvm.Cond.codeWith ⟨"EchoGorgeLaw","matching","(LEchoGorge;III[J)I"⟩ method_21_code 6 (Option.some Jvm.ClassFile.FieldType.int) [(0, 12, 15, 18)]) : Cond) ∈ GW := tw6 (List.mem_of_getElem? (i := 30) rfl) rfl
theorem wd1231 : ((Jvm.Cond.methodLink "EchoGorgeLaw" 72 ⟨"EchoGorge","matching","(III)I"⟩) : Cond) ∈ GW := tw6 (List.mem_of_getElem? (i := 31) rfl) rfl
theorem wd1232 : ((Jvm.Cond.instanceMethod ⟨"EchoGorge","matching","(III)I"⟩) : Cond) ∈ GW := tw6 (List.mem_of_getElem? (i := 32) rfl) rfl
theorem wd1233 : ((Jvm.Cond.selects "EchoGorge" ⟨"EchoGorge","matching","(III)I"⟩ ⟨"EchoGorge","matching","(III)I"⟩) : Cond) ∈ GW := tw6 (List.mem_of_getElem? (i := 33) rfl) rfl
theorem wd1234 : ((Jvm.Cond.code ⟨"EchoGorge","matching","(III)I"⟩ prog_1_method_25_code 5 (Option.some Jvm.ClassFile.FieldType.int)) : Cond) ∈ GW := tw6 (List.mem_of_getElem? (i := 34) rfl) rfl
theorem wd1235 : ((Jvm.Cond.methodLink "EchoGorge" 296 ⟨"EchoGorge$Places","countMatching","(LEchoGorge$Scene;II)I"⟩) : Cond) ∈ GW := tw6 (List.mem_of_getElem? (i := 35) rfl) rfl
theorem wd1236 : ((Jvm.Cond.instanceMethod ⟨"EchoGorge$Places","countMatching","(LEchoGorge$Scene;II)I"⟩) : Cond) ∈ GW := tw6 (List.mem_of_getElem? (i := 36) rfl) rfl
theorem wd1237 : ((Jvm.Cond.selects "EchoGorge$Places" ⟨"EchoGorge$Places","countMatching","(LEchoGorge$Scene;II)I"⟩ ⟨"EchoGorge$Places","countMatching","(LEchoGorge$Scene;II)I"⟩) : Cond) ∈ GW := tw6 (List.mem_of_getElem? (i := 37) rfl) rfl
theorem wd1238 : ((Jvm.Cond.code ⟨"EchoGorge$Places","countMatching","(LEchoGorge$Scene;II)I"⟩ prog_7_method_4_code 6 (Option.some Jvm.ClassFile.FieldType.int)) : Cond) ∈ GW := tw6 (List.mem_of_getElem? (i := 38) rfl) rfl
theorem wd1239 : ((Jvm.Cond.methodLink "EchoGorge$Places" 36 ⟨"EchoGorge$Places","matches","(LEchoGorge$Scene;IIII)Z"⟩) : Cond) ∈ GW := tw6 (List.mem_of_getElem? (i := 39) rfl) rfl
theorem wd1241 : ((Jvm.Cond.instanceMethod ⟨"EchoGorge$Places","matches","(LEchoGorge$Scene;IIII)Z"⟩) : Cond) ∈ GW := tw6 (List.mem_of_getElem? (i := 41) rfl) rfl
theorem wd1242 : ((Jvm.Cond.code ⟨"EchoGorge$Places","matches","(LEchoGorge$Scene;IIII)Z"⟩ prog_7_method_3_code 7 (Option.some Jvm.ClassFile.FieldType.boolean)) : Cond) ∈ GW := tw6 (List.mem_of_getElem? (i := 42) rfl) rfl
theorem wd1243 : ((Jvm.Cond.methodLink "EchoGorge$Places" 32 ⟨"EchoGorge$Places","ticksTo","(LEchoGorge$Scene;III)I"⟩) : Cond) ∈ GW := tw6 (List.mem_of_getElem? (i := 43) rfl) rfl
theorem wd1245 : ((Jvm.Cond.instanceMethod ⟨"EchoGorge$Places","ticksTo","(LEchoGorge$Scene;III)I"⟩) : Cond) ∈ GW := tw6 (List.mem_of_getElem? (i := 45) rfl) rfl
theorem wd1246 : ((Jvm.Cond.code ⟨"EchoGorge$Places","ticksTo","(LEchoGorge$Scene;III)I"⟩ prog_7_method_2_code 5 (Option.some Jvm.ClassFile.FieldType.int)) : Cond) ∈ GW := tw6 (List.mem_of_getElem? (i := 46) rfl) rfl
theorem wd1247 : ((Jvm.Cond.methodLink "EchoGorge$Places" 23 ⟨"java/lang/Math","abs","(I)I"⟩) : Cond) ∈ GW := tw6 (List.mem_of_getElem? (i := 47) rfl) rfl
theorem wd1248 : ((Jvm.Cond.static ⟨"java/lang/Math","abs","(I)I"⟩) : Cond) ∈ GW := tw6 (List.mem_of_getElem? (i := 48) rfl) rfl
theorem wd1249 : (Cond.code Lib.Math.abs.name Lib.Math.abs.code 1 (some .int) : Cond) ∈ GW := tw6 (List.mem_of_getElem? (i := 49) rfl) rfl
theorem wd1250 : ((Jvm.Cond.methodLink "EchoGorge" 300 ⟨"EchoGorge$Places","findMatching","(LEchoGorge$Scene;III)I"⟩) : Cond) ∈ GW := tw6 (List.mem_of_getElem? (i := 50) rfl) rfl
theorem wd1251 : ((Jvm.Cond.instanceMethod ⟨"EchoGorge$Places","findMatching","(LEchoGorge$Scene;III)I"⟩) : Cond) ∈ GW := tw6 (List.mem_of_getElem? (i := 51) rfl) rfl
theorem wd1252 : ((Jvm.Cond.selects "EchoGorge$Places" ⟨"EchoGorge$Places","findMatching","(LEchoGorge$Scene;III)I"⟩ ⟨"EchoGorge$Places","findMatching","(LEchoGorge$Scene;III)I"⟩) : Cond) ∈ GW := tw6 (List.mem_of_getElem? (i := 52) rfl) rfl
theorem wd1253 : ((Jvm.Cond.code ⟨"EchoGorge$Places","findMatching","(LEchoGorge$Scene;III)I"⟩ prog_7_method_5_code 7 (Option.some Jvm.ClassFile.FieldType.int)) : Cond) ∈ GW := tw6 (List.mem_of_getElem? (i := 53) rfl) rfl
theorem wd1254 : ((Jvm.Cond.methodLink "EchoGorgeLaw" 169 ⟨"EchoGorgeLaw","moved","(LEchoGorge;IIIII[J)I"⟩) : Cond) ∈ GW := tw6 (List.mem_of_getElem? (i := 54) rfl) rfl
theorem wd1255 : ((Jvm.Cond.static ⟨"EchoGorgeLaw","moved","(LEchoGorge;IIIII[J)I"⟩) : Cond) ∈ GW := tw6 (List.mem_of_getElem? (i := 55) rfl) rfl
theorem wd1256 : ((Jvm.Cond.codeWith ⟨"EchoGorgeLaw","moved","(LEchoGorge;IIIII[J)I"⟩ method_22_code 8 (Option.some Jvm.ClassFile.FieldType.int) [(0, 16, 19, 13)]) : Cond) ∈ GW := tw6 (List.mem_of_getElem? (i := 56) rfl) rfl
theorem wd1257 : ((Jvm.Cond.methodLink "EchoGorgeLaw" 75 ⟨"EchoGorge","moved","(IIIII)I"⟩) : Cond) ∈ GW := tw6 (List.mem_of_getElem? (i := 57) rfl) rfl
theorem wd1258 : ((Jvm.Cond.instanceMethod ⟨"EchoGorge","moved","(IIIII)I"⟩) : Cond) ∈ GW := tw6 (List.mem_of_getElem? (i := 58) rfl) rfl
theorem wd1259 : ((Jvm.Cond.selects "EchoGorge" ⟨"EchoGorge","moved","(IIIII)I"⟩ ⟨"EchoGorge","moved","(IIIII)I"⟩) : Cond) ∈ GW := tw6 (List.mem_of_getElem? (i := 59) rfl) rfl
theorem wd1260 : ((Jvm.Cond.code ⟨"EchoGorge","moved","(IIIII)I"⟩ prog_1_method_26_code 6 (Option.some Jvm.ClassFile.FieldType.int)) : Cond) ∈ GW := tw6 (List.mem_of_getElem? (i := 60) rfl) rfl
theorem wd1261 : ((Jvm.Cond.methodLink "EchoGorge" 304 ⟨"EchoGorge$Places","chart","(LEchoGorge$Scene;II)V"⟩) : Cond) ∈ GW := tw6 (List.mem_of_getElem? (i := 61) rfl) rfl
theorem wd1262 : ((Jvm.Cond.instanceMethod ⟨"EchoGorge$Places","chart","(LEchoGorge$Scene;II)V"⟩) : Cond) ∈ GW := tw6 (List.mem_of_getElem? (i := 62) rfl) rfl
theorem wd1263 : ((Jvm.Cond.selects "EchoGorge$Places" ⟨"EchoGorge$Places","chart","(LEchoGorge$Scene;II)V"⟩ ⟨"EchoGorge$Places","chart","(LEchoGorge$Scene;II)V"⟩) : Cond) ∈ GW := tw6 (List.mem_of_getElem? (i := 63) rfl) rfl
theorem wd1264 : ((Jvm.Cond.code ⟨"EchoGorge$Places","chart","(LEchoGorge$Scene;II)V"⟩ prog_7_method_6_code 7 (Option.none : Option Jvm.ClassFile.FieldType)) : Cond) ∈ GW := tw6 (List.mem_of_getElem? (i := 64) rfl) rfl
theorem wd1265 : ((Jvm.Cond.methodLink "EchoGorge" 308 ⟨"EchoGorge$Places","countCouples","(LEchoGorge$Scene;III)I"⟩) : Cond) ∈ GW := tw6 (List.mem_of_getElem? (i := 65) rfl) rfl
theorem wd1266 : ((Jvm.Cond.instanceMethod ⟨"EchoGorge$Places","countCouples","(LEchoGorge$Scene;III)I"⟩) : Cond) ∈ GW := tw6 (List.mem_of_getElem? (i := 66) rfl) rfl
theorem wd1267 : ((Jvm.Cond.selects "EchoGorge$Places" ⟨"EchoGorge$Places","countCouples","(LEchoGorge$Scene;III)I"⟩ ⟨"EchoGorge$Places","countCouples","(LEchoGorge$Scene;III)I"⟩) : Cond) ∈ GW := tw6 (List.mem_of_getElem? (i := 67) rfl) rfl
theorem wd1268 : ((Jvm.Cond.code ⟨"EchoGorge$Places","countCouples","(LEchoGorge$Scene;III)I"⟩ prog_7_method_7_code 8 (Option.some Jvm.ClassFile.FieldType.int)) : Cond) ∈ GW := tw6 (List.mem_of_getElem? (i := 68) rfl) rfl
theorem wd1269 : ((Jvm.Cond.methodLink "EchoGorge$Places" 40 ⟨"EchoGorge$Places","chartedNear","(III)I"⟩) : Cond) ∈ GW := tw6 (List.mem_of_getElem? (i := 69) rfl) rfl
theorem wd1271 : ((Jvm.Cond.instanceMethod ⟨"EchoGorge$Places","chartedNear","(III)I"⟩) : Cond) ∈ GW := tw6 (List.mem_of_getElem? (i := 71) rfl) rfl
theorem wd1272 : ((Jvm.Cond.code ⟨"EchoGorge$Places","chartedNear","(III)I"⟩ prog_7_method_8_code 10 (Option.some Jvm.ClassFile.FieldType.int)) : Cond) ∈ GW := tw6 (List.mem_of_getElem? (i := 72) rfl) rfl
theorem wd1273 : ((Jvm.Cond.methodLink "EchoGorge$Places" 44 ⟨"java/lang/Math","min","(II)I"⟩) : Cond) ∈ GW := tw6 (List.mem_of_getElem? (i := 73) rfl) rfl
theorem wd1274 : ((Jvm.Cond.methodLink "EchoGorge$Places" 48 ⟨"java/lang/Math","max","(II)I"⟩) : Cond) ∈ GW := tw6 (List.mem_of_getElem? (i := 74) rfl) rfl
theorem wd1275 : ((Jvm.Cond.methodLink "EchoGorgeLaw" 173 ⟨"EchoGorgeLaw","code","(LEchoGorge;II[J)I"⟩) : Cond) ∈ GW := tw6 (List.mem_of_getElem? (i := 75) rfl) rfl
theorem wd1276 : ((Jvm.Cond.static ⟨"EchoGorgeLaw","code","(LEchoGorge;II[J)I"⟩) : Cond) ∈ GW := tw6 (List.mem_of_getElem? (i := 76) rfl) rfl
theorem wd1277 : ((Jvm.Cond.codeWith ⟨"EchoGorgeLaw","code","(LEchoGorge;II[J)I"⟩ method_23_code 5 (Option.some Jvm.ClassFile.FieldType.int) [(0, 10, 13, 18)]) : Cond) ∈ GW := tw6 (List.mem_of_getElem? (i := 77) rfl) rfl
theorem wd1278 : ((Jvm.Cond.methodLink "EchoGorgeLaw" 79 ⟨"EchoGorge","code","(II)I"⟩) : Cond) ∈ GW := tw6 (List.mem_of_getElem? (i := 78) rfl) rfl
theorem wd1279 : ((Jvm.Cond.instanceMethod ⟨"EchoGorge","code","(II)I"⟩) : Cond) ∈ GW := tw6 (List.mem_of_getElem? (i := 79) rfl) rfl
theorem wd1280 : ((Jvm.Cond.selects "EchoGorge" ⟨"EchoGorge","code","(II)I"⟩ ⟨"EchoGorge","code","(II)I"⟩) : Cond) ∈ GW := tw6 (List.mem_of_getElem? (i := 80) rfl) rfl
theorem wd1281 : ((Jvm.Cond.code ⟨"EchoGorge","code","(II)I"⟩ prog_1_method_27_code 4 (Option.some Jvm.ClassFile.FieldType.int)) : Cond) ∈ GW := tw6 (List.mem_of_getElem? (i := 81) rfl) rfl
theorem wd1282 : ((Jvm.Cond.methodLink "EchoGorge" 311 ⟨"EchoGorge$Claps","compare","(LEchoGorge$Gorge;LEchoGorge$Hearing;LEchoGorge$Returns;I)V"⟩) : Cond) ∈ GW := tw6 (List.mem_of_getElem? (i := 82) rfl) rfl
theorem wd1283 : ((Jvm.Cond.instanceMethod ⟨"EchoGorge$Claps","compare","(LEchoGorge$Gorge;LEchoGorge$Hearing;LEchoGorge$Returns;I)V"⟩) : Cond) ∈ GW := tw6 (List.mem_of_getElem? (i := 83) rfl) rfl
theorem wd1284 : ((Jvm.Cond.selects "EchoGorge$Claps" ⟨"EchoGorge$Claps","compare","(LEchoGorge$Gorge;LEchoGorge$Hearing;LEchoGorge$Returns;I)V"⟩ ⟨"EchoGorge$Claps","compare","(LEchoGorge$Gorge;LEchoGorge$Hearing;LEchoGorge$Returns;I)V"⟩) : Cond) ∈ GW := tw6 (List.mem_of_getElem? (i := 84) rfl) rfl
theorem wd1285 : ((Jvm.Cond.code ⟨"EchoGorge$Claps","compare","(LEchoGorge$Gorge;LEchoGorge$Hearing;LEchoGorge$Returns;I)V"⟩ prog_3_method_2_code 9 (Option.none : Option Jvm.ClassFile.FieldType)) : Cond) ∈ GW := tw6 (List.mem_of_getElem? (i := 85) rfl) rfl
theorem wd1286 : ((Jvm.Cond.methodLink "EchoGorge$Claps" 18 ⟨"java/util/Arrays","fill","([II)V"⟩) : Cond) ∈ GW := tw6 (List.mem_of_getElem? (i := 86) rfl) rfl
theorem wd1287 : ((Jvm.Cond.methodLink "EchoGorge$Claps" 24 ⟨"EchoGorge$Hearing","attend","(LEchoGorge$Gorge;LEchoGorge$Returns;[II)V"⟩) : Cond) ∈ GW := tw6 (List.mem_of_getElem? (i := 87) rfl) rfl
theorem wd1288 : ((Jvm.Cond.methodLink "EchoGorge$Claps" 30 ⟨"EchoGorge$Claps","heardGaps","(LEchoGorge$Hearing;)I"⟩) : Cond) ∈ GW := tw6 (List.mem_of_getElem? (i := 88) rfl) rfl
theorem wd1290 : ((Jvm.Cond.instanceMethod ⟨"EchoGorge$Claps","heardGaps","(LEchoGorge$Hearing;)I"⟩) : Cond) ∈ GW := tw6 (List.mem_of_getElem? (i := 90) rfl) rfl
theorem wd1291 : ((Jvm.Cond.code ⟨"EchoGorge$Claps","heardGaps","(LEchoGorge$Hearing;)I"⟩ prog_3_method_3_code 4 (Option.some Jvm.ClassFile.FieldType.int)) : Cond) ∈ GW := tw6 (List.mem_of_getElem? (i := 91) rfl) rfl
theorem wd1292 : ((Jvm.Cond.methodLink "EchoGorge$Claps" 34 ⟨"EchoGorge$Hearing","measure","(I)V"⟩) : Cond) ∈ GW := tw6 (List.mem_of_getElem? (i := 92) rfl) rfl
theorem wd1293 : ((Jvm.Cond.methodLink "EchoGorge$Claps" 38 ⟨"EchoGorge$Hearing","hears","(I)I"⟩) : Cond) ∈ GW := tw6 (List.mem_of_getElem? (i := 93) rfl) rfl
theorem wd1294 : ((Jvm.Cond.methodLink "EchoGorge" 318 ⟨"EchoGorge$Claps","choose","()I"⟩) : Cond) ∈ GW := tw6 (List.mem_of_getElem? (i := 94) rfl) rfl
theorem wd1295 : ((Jvm.Cond.instanceMethod ⟨"EchoGorge$Claps","choose","()I"⟩) : Cond) ∈ GW := tw6 (List.mem_of_getElem? (i := 95) rfl) rfl
theorem wd1296 : ((Jvm.Cond.selects "EchoGorge$Claps" ⟨"EchoGorge$Claps","choose","()I"⟩ ⟨"EchoGorge$Claps","choose","()I"⟩) : Cond) ∈ GW := tw6 (List.mem_of_getElem? (i := 96) rfl) rfl
theorem wd1297 : ((Jvm.Cond.code ⟨"EchoGorge$Claps","choose","()I"⟩ prog_3_method_4_code 1 (Option.some Jvm.ClassFile.FieldType.int)) : Cond) ∈ GW := tw6 (List.mem_of_getElem? (i := 97) rfl) rfl
theorem wd1298 : ((Jvm.Cond.constant "EchoGorge$Claps" 52 (65535 : Int32)) : Cond) ∈ GW := tw6 (List.mem_of_getElem? (i := 98) rfl) rfl
theorem wd1299 : ((Jvm.Cond.methodLink "EchoGorge$Claps" 53 ⟨"EchoGorge$Claps","extend","(II)V"⟩) : Cond) ∈ GW := tw6 (List.mem_of_getElem? (i := 99) rfl) rfl
theorem wd1301 : ((Jvm.Cond.instanceMethod ⟨"EchoGorge$Claps","extend","(II)V"⟩) : Cond) ∈ GW := tw6 (List.mem_of_getElem? (i := 101) rfl) rfl
theorem wd1302 : ((Jvm.Cond.code ⟨"EchoGorge$Claps","extend","(II)V"⟩ prog_3_method_5_code 5 (Option.none : Option Jvm.ClassFile.FieldType)) : Cond) ∈ GW := tw6 (List.mem_of_getElem? (i := 102) rfl) rfl
theorem wd1303 : ((Jvm.Cond.methodLink "EchoGorge$Claps" 57 ⟨"java/lang/Integer","bitCount","(I)I"⟩) : Cond) ∈ GW := tw6 (List.mem_of_getElem? (i := 103) rfl) rfl
theorem wd1304 : ((Jvm.Cond.methodLink "EchoGorge$Claps" 62 ⟨"EchoGorge$Claps","weigh","(I)V"⟩) : Cond) ∈ GW := tw6 (List.mem_of_getElem? (i := 104) rfl) rfl
theorem wd1306 : ((Jvm.Cond.instanceMethod ⟨"EchoGorge$Claps","weigh","(I)V"⟩) : Cond) ∈ GW := tw6 (List.mem_of_getElem? (i := 106) rfl) rfl
theorem wd1307 : ((Jvm.Cond.code ⟨"EchoGorge$Claps","weigh","(I)V"⟩ prog_3_method_6_code 5 (Option.none : Option Jvm.ClassFile.FieldType)) : Cond) ∈ GW := tw6 (List.mem_of_getElem? (i := 107) rfl) rfl
theorem wd1315 : ((Jvm.Cond.fieldLink "EchoGorgeModel" 136 "EchoGorgeModel" "thrown" "I") : Cond) ∈ GW := tw6 (List.mem_of_getElem? (i := 115) rfl) rfl
theorem wd1316 : ((Jvm.Cond.fieldLink "EchoGorgeModel" 267 "EchoGorgeModel" "sounds" "I") : Cond) ∈ GW := tw6 (List.mem_of_getElem? (i := 116) rfl) rfl
theorem wd1317 : ((Jvm.Cond.fieldLink "EchoGorgeModel" 270 "EchoGorgeModel" "walls" "I") : Cond) ∈ GW := tw6 (List.mem_of_getElem? (i := 117) rfl) rfl
theorem wd1318 : ((Jvm.Cond.fieldLink "EchoGorgeModel" 273 "EchoGorgeModel" "words" "I") : Cond) ∈ GW := tw6 (List.mem_of_getElem? (i := 118) rfl) rfl
theorem wd1319 : ((Jvm.Cond.fieldLink "EchoGorgeModel" 276 "EchoGorgeModel" "forms" "I") : Cond) ∈ GW := tw6 (List.mem_of_getElem? (i := 119) rfl) rfl
theorem wd1320 : ((Jvm.Cond.fieldLink "EchoGorgeModel" 7 "EchoGorgeModel" "least" "I") : Cond) ∈ GW := tw6 (List.mem_of_getElem? (i := 120) rfl) rfl
theorem wd1321 : ((Jvm.Cond.fieldLink "EchoGorgeModel" 279 "EchoGorgeModel" "window" "I") : Cond) ∈ GW := tw6 (List.mem_of_getElem? (i := 121) rfl) rfl
theorem wd1322 : ((Jvm.Cond.fieldLink "EchoGorgeModel" 282 "EchoGorgeModel" "margin" "I") : Cond) ∈ GW := tw6 (List.mem_of_getElem? (i := 122) rfl) rfl
theorem wd1323 : ((Jvm.Cond.fieldLink "EchoGorgeModel" 13 "EchoGorgeModel" "sound" "[I") : Cond) ∈ GW := tw6 (List.mem_of_getElem? (i := 123) rfl) rfl
theorem wd1324 : ((Jvm.Cond.fieldLink "EchoGorgeModel" 17 "EchoGorgeModel" "wall" "[I") : Cond) ∈ GW := tw6 (List.mem_of_getElem? (i := 124) rfl) rfl
theorem wd1325 : ((Jvm.Cond.fieldLink "EchoGorgeModel" 20 "EchoGorgeModel" "word" "[I") : Cond) ∈ GW := tw6 (List.mem_of_getElem? (i := 125) rfl) rfl
theorem wd1326 : ((Jvm.Cond.fieldLink "EchoGorgeModel" 23 "EchoGorgeModel" "form" "[I") : Cond) ∈ GW := tw6 (List.mem_of_getElem? (i := 126) rfl) rfl
theorem wd1327 : ((Jvm.Cond.fieldLink "EchoGorgeModel" 26 "EchoGorgeModel" "straight" "[I") : Cond) ∈ GW := tw6 (List.mem_of_getElem? (i := 127) rfl) rfl
theorem wd1328 : ((Jvm.Cond.fieldLink "EchoGorgeModel" 29 "EchoGorgeModel" "air" "[I") : Cond) ∈ GW := tw6 (List.mem_of_getElem? (i := 128) rfl) rfl
theorem wd1329 : ((Jvm.Cond.fieldLink "EchoGorgeModel" 32 "EchoGorgeModel" "sweet" "[I") : Cond) ∈ GW := tw6 (List.mem_of_getElem? (i := 129) rfl) rfl
theorem wd1330 : ((Jvm.Cond.fieldLink "EchoGorgeModel" 35 "EchoGorgeModel" "tape" "[I") : Cond) ∈ GW := tw6 (List.mem_of_getElem? (i := 130) rfl) rfl
theorem wd1331 : ((Jvm.Cond.fieldLink "EchoGorgeModel" 139 "EchoGorgeModel" "taped" "I") : Cond) ∈ GW := tw6 (List.mem_of_getElem? (i := 131) rfl) rfl
theorem wd1332 : ((Jvm.Cond.fieldLink "EchoGorgeModel" 187 "EchoGorgeModel" "faultKind" "I") : Cond) ∈ GW := tw6 (List.mem_of_getElem? (i := 132) rfl) rfl
theorem wd1333 : ((Jvm.Cond.fieldLink "EchoGorgeModel" 38 "EchoGorgeModel" "faultPlace" "I") : Cond) ∈ GW := tw6 (List.mem_of_getElem? (i := 133) rfl) rfl
theorem wd1334 : ((Jvm.Cond.fieldLink "EchoGorgeModel" 41 "EchoGorgeModel" "refused" "[I") : Cond) ∈ GW := tw6 (List.mem_of_getElem? (i := 134) rfl) rfl
theorem wd1335 : ((Jvm.Cond.fieldLink "EchoGorgeModel" 146 "EchoGorgeModel" "size" "I") : Cond) ∈ GW := tw6 (List.mem_of_getElem? (i := 135) rfl) rfl
theorem wd1336 : ((Jvm.Cond.fieldLink "EchoGorgeModel" 149 "EchoGorgeModel" "next" "I") : Cond) ∈ GW := tw6 (List.mem_of_getElem? (i := 136) rfl) rfl
theorem wd1337 : ((Jvm.Cond.fieldLink "EchoGorgeModel" 166 "EchoGorgeModel" "sort" "I") : Cond) ∈ GW := tw6 (List.mem_of_getElem? (i := 137) rfl) rfl
theorem wd1338 : ((Jvm.Cond.fieldLink "EchoGorgeModel" 156 "EchoGorgeModel" "place" "I") : Cond) ∈ GW := tw6 (List.mem_of_getElem? (i := 138) rfl) rfl
theorem wd1339 : ((Jvm.Cond.fieldLink "EchoGorgeModel" 176 "EchoGorgeModel" "long0" "I") : Cond) ∈ GW := tw6 (List.mem_of_getElem? (i := 139) rfl) rfl
theorem wd1340 : ((Jvm.Cond.fieldLink "EchoGorgeModel" 163 "EchoGorgeModel" "value" "I") : Cond) ∈ GW := tw6 (List.mem_of_getElem? (i := 140) rfl) rfl
theorem wd1341 : ((Jvm.Cond.fieldLink "EchoGorgeModel" 159 "EchoGorgeModel" "letters" "J") : Cond) ∈ GW := tw6 (List.mem_of_getElem? (i := 141) rfl) rfl
theorem wd1342 : ((Jvm.Cond.fieldLink "EchoGorgeModel" 200 "EchoGorgeModel" "newSounds" "I") : Cond) ∈ GW := tw6 (List.mem_of_getElem? (i := 142) rfl) rfl
theorem wd1343 : ((Jvm.Cond.fieldLink "EchoGorgeModel" 203 "EchoGorgeModel" "newWalls" "I") : Cond) ∈ GW := tw6 (List.mem_of_getElem? (i := 143) rfl) rfl
theorem wd1344 : ((Jvm.Cond.fieldLink "EchoGorgeModel" 216 "EchoGorgeModel" "newWords" "I") : Cond) ∈ GW := tw6 (List.mem_of_getElem? (i := 144) rfl) rfl
theorem wd1345 : ((Jvm.Cond.fieldLink "EchoGorgeModel" 219 "EchoGorgeModel" "newForms" "I") : Cond) ∈ GW := tw6 (List.mem_of_getElem? (i := 145) rfl) rfl
theorem wd1346 : ((Jvm.Cond.fieldLink "EchoGorgeModel" 238 "EchoGorgeModel" "newLeast" "I") : Cond) ∈ GW := tw6 (List.mem_of_getElem? (i := 146) rfl) rfl
theorem wd1347 : ((Jvm.Cond.fieldLink "EchoGorgeModel" 241 "EchoGorgeModel" "newWindow" "I") : Cond) ∈ GW := tw6 (List.mem_of_getElem? (i := 147) rfl) rfl
theorem wd1348 : ((Jvm.Cond.fieldLink "EchoGorgeModel" 244 "EchoGorgeModel" "newMargin" "I") : Cond) ∈ GW := tw6 (List.mem_of_getElem? (i := 148) rfl) rfl
theorem wd1349 : ((Jvm.Cond.fieldLink "EchoGorgeModel" 222 "EchoGorgeModel" "airTold" "I") : Cond) ∈ GW := tw6 (List.mem_of_getElem? (i := 149) rfl) rfl
theorem wd1350 : ((Jvm.Cond.fieldLink "EchoGorgeModel" 228 "EchoGorgeModel" "hasStraight" "Z") : Cond) ∈ GW := tw6 (List.mem_of_getElem? (i := 150) rfl) rfl
theorem wd1351 : ((Jvm.Cond.fieldLink "EchoGorgeModel" 235 "EchoGorgeModel" "hasMask" "Z") : Cond) ∈ GW := tw6 (List.mem_of_getElem? (i := 151) rfl) rfl
theorem wd1352 : ((Jvm.Cond.fieldLink "EchoGorgeModel" 44 "EchoGorgeModel" "newSound" "[I") : Cond) ∈ GW := tw6 (List.mem_of_getElem? (i := 152) rfl) rfl
theorem wd1353 : ((Jvm.Cond.fieldLink "EchoGorgeModel" 47 "EchoGorgeModel" "newWall" "[I") : Cond) ∈ GW := tw6 (List.mem_of_getElem? (i := 153) rfl) rfl
theorem wd1354 : ((Jvm.Cond.fieldLink "EchoGorgeModel" 50 "EchoGorgeModel" "newWord" "[I") : Cond) ∈ GW := tw6 (List.mem_of_getElem? (i := 154) rfl) rfl
theorem wd1355 : ((Jvm.Cond.fieldLink "EchoGorgeModel" 53 "EchoGorgeModel" "newForm" "[I") : Cond) ∈ GW := tw6 (List.mem_of_getElem? (i := 155) rfl) rfl
theorem wd1356 : ((Jvm.Cond.fieldLink "EchoGorgeModel" 56 "EchoGorgeModel" "newStraight" "[I") : Cond) ∈ GW := tw6 (List.mem_of_getElem? (i := 156) rfl) rfl
theorem wd1357 : ((Jvm.Cond.fieldLink "EchoGorgeModel" 59 "EchoGorgeModel" "newAir" "[I") : Cond) ∈ GW := tw6 (List.mem_of_getElem? (i := 157) rfl) rfl
theorem wd1358 : ((Jvm.Cond.fieldLink "EchoGorgeModel" 62 "EchoGorgeModel" "newSweet" "[I") : Cond) ∈ GW := tw6 (List.mem_of_getElem? (i := 158) rfl) rfl
theorem wd1359 : ((Jvm.Cond.fieldLink "EchoGorgeModel" 65 "EchoGorgeModel" "loud" "[I") : Cond) ∈ GW := tw6 (List.mem_of_getElem? (i := 159) rfl) rfl
theorem wd1360 : ((Jvm.Cond.fieldLink "EchoGorgeModel" 309 "EchoGorgeModel" "reach" "I") : Cond) ∈ GW := tw6 (List.mem_of_getElem? (i := 160) rfl) rfl
theorem wd1361 : ((Jvm.Cond.fieldLink "EchoGorgeModel" 322 "EchoGorgeModel" "fog" "I") : Cond) ∈ GW := tw6 (List.mem_of_getElem? (i := 161) rfl) rfl
theorem wd1362 : ((Jvm.Cond.fieldLink "EchoGorgeModel" 68 "EchoGorgeModel" "without" "I") : Cond) ∈ GW := tw6 (List.mem_of_getElem? (i := 162) rfl) rfl
theorem wd1363 : ((Jvm.Cond.fieldLink "EchoGorgeModel" 312 "EchoGorgeModel" "atEar" "I") : Cond) ∈ GW := tw6 (List.mem_of_getElem? (i := 163) rfl) rfl
theorem wd1364 : ((Jvm.Cond.fieldLink "EchoGorgeModel" 315 "EchoGorgeModel" "atHour" "I") : Cond) ∈ GW := tw6 (List.mem_of_getElem? (i := 164) rfl) rfl
theorem wd1365 : ((Jvm.Cond.fieldLink "EchoGorgeModel" 289 "EchoGorgeModel" "said" "I") : Cond) ∈ GW := tw6 (List.mem_of_getElem? (i := 165) rfl) rfl
theorem wd1366 : ((Jvm.Cond.fieldLink "EchoGorgeModel" 71 "EchoGorgeModel" "saidSound" "[I") : Cond) ∈ GW := tw6 (List.mem_of_getElem? (i := 166) rfl) rfl
theorem wd1367 : ((Jvm.Cond.fieldLink "EchoGorgeModel" 74 "EchoGorgeModel" "saidTick" "[I") : Cond) ∈ GW := tw6 (List.mem_of_getElem? (i := 167) rfl) rfl
theorem wd1368 : ((Jvm.Cond.fieldLink "EchoGorgeModel" 353 "EchoGorgeModel" "lineForm" "I") : Cond) ∈ GW := tw6 (List.mem_of_getElem? (i := 168) rfl) rfl
theorem wd1369 : ((Jvm.Cond.fieldLink "EchoGorgeModel" 77 "EchoGorgeModel" "lineWord" "[I") : Cond) ∈ GW := tw6 (List.mem_of_getElem? (i := 169) rfl) rfl
theorem wd1370 : ((Jvm.Cond.fieldLink "EchoGorgeModel" 80 "EchoGorgeModel" "spoken" "[I") : Cond) ∈ GW := tw6 (List.mem_of_getElem? (i := 170) rfl) rfl
theorem wd1371 : ((Jvm.Cond.fieldLink "EchoGorgeModel" 83 "EchoGorgeModel" "back" "[I") : Cond) ∈ GW := tw6 (List.mem_of_getElem? (i := 171) rfl) rfl
theorem wd1372 : ((Jvm.Cond.fieldLink "EchoGorgeModel" 362 "EchoGorgeModel" "spokenLong" "I") : Cond) ∈ GW := tw6 (List.mem_of_getElem? (i := 172) rfl) rfl
theorem wd1373 : ((Jvm.Cond.fieldLink "EchoGorgeModel" 368 "EchoGorgeModel" "backLong" "I") : Cond) ∈ GW := tw6 (List.mem_of_getElem? (i := 173) rfl) rfl
theorem wd1374 : ((Jvm.Cond.fieldLink "EchoGorgeModel" 381 "EchoGorgeModel" "answering" "I") : Cond) ∈ GW := tw6 (List.mem_of_getElem? (i := 174) rfl) rfl
theorem wd1375 : ((Jvm.Cond.fieldLink "EchoGorgeModel" 384 "EchoGorgeModel" "echoed" "I") : Cond) ∈ GW := tw6 (List.mem_of_getElem? (i := 175) rfl) rfl
theorem wd1376 : ((Jvm.Cond.fieldLink "EchoGorgeModel" 387 "EchoGorgeModel" "plain" "I") : Cond) ∈ GW := tw6 (List.mem_of_getElem? (i := 176) rfl) rfl
theorem wd1377 : ((Jvm.Cond.fieldLink "EchoGorgeModel" 402 "EchoGorgeModel" "plainForm" "I") : Cond) ∈ GW := tw6 (List.mem_of_getElem? (i := 177) rfl) rfl
theorem wd1378 : ((Jvm.Cond.fieldLink "EchoGorgeModel" 390 "EchoGorgeModel" "beginnings" "I") : Cond) ∈ GW := tw6 (List.mem_of_getElem? (i := 178) rfl) rfl
theorem wd1379 : ((Jvm.Cond.fieldLink "EchoGorgeModel" 86 "EchoGorgeModel" "plainWord" "[I") : Cond) ∈ GW := tw6 (List.mem_of_getElem? (i := 179) rfl) rfl
theorem wd1380 : ((Jvm.Cond.fieldLink "EchoGorgeModel" 89 "EchoGorgeModel" "good" "[I") : Cond) ∈ GW := tw6 (List.mem_of_getElem? (i := 180) rfl) rfl
theorem wd1381 : ((Jvm.Cond.fieldLink "EchoGorgeModel" 295 "EchoGorgeModel" "roundLong" "I") : Cond) ∈ GW := tw6 (List.mem_of_getElem? (i := 181) rfl) rfl
theorem wd1382 : ((Jvm.Cond.fieldLink "EchoGorgeModel" 92 "EchoGorgeModel" "sung" "[I") : Cond) ∈ GW := tw6 (List.mem_of_getElem? (i := 182) rfl) rfl
theorem wd1383 : ((Jvm.Cond.fieldLink "EchoGorgeModel" 292 "EchoGorgeModel" "told" "I") : Cond) ∈ GW := tw6 (List.mem_of_getElem? (i := 183) rfl) rfl
theorem wd1384 : ((Jvm.Cond.fieldLink "EchoGorgeModel" 95 "EchoGorgeModel" "tells" "[I") : Cond) ∈ GW := tw6 (List.mem_of_getElem? (i := 184) rfl) rfl
theorem wd1385 : ((Jvm.Cond.fieldLink "EchoGorgeModel" 98 "EchoGorgeModel" "rival" "[I") : Cond) ∈ GW := tw6 (List.mem_of_getElem? (i := 185) rfl) rfl
theorem wd1386 : ((Jvm.Cond.fieldLink "EchoGorgeModel" 101 "EchoGorgeModel" "rows" "[J") : Cond) ∈ GW := tw6 (List.mem_of_getElem? (i := 186) rfl) rfl
theorem wd1387 : ((Jvm.Cond.fieldLink "EchoGorgeModel" 427 "EchoGorgeModel" "rivals" "I") : Cond) ∈ GW := tw6 (List.mem_of_getElem? (i := 187) rfl) rfl
theorem wd1388 : ((Jvm.Cond.fieldLink "EchoGorgeModel" 105 "EchoGorgeModel" "truly" "[I") : Cond) ∈ GW := tw6 (List.mem_of_getElem? (i := 188) rfl) rfl
theorem wd1389 : ((Jvm.Cond.fieldLink "EchoGorgeModel" 108 "EchoGorgeModel" "stands" "[I") : Cond) ∈ GW := tw6 (List.mem_of_getElem? (i := 189) rfl) rfl
theorem wd1390 : ((Jvm.Cond.fieldLink "EchoGorgeModel" 111 "EchoGorgeModel" "here" "[Z") : Cond) ∈ GW := tw6 (List.mem_of_getElem? (i := 190) rfl) rfl
theorem wd1391 : ((Jvm.Cond.fieldLink "EchoGorgeModel" 115 "EchoGorgeModel" "there" "[Z") : Cond) ∈ GW := tw6 (List.mem_of_getElem? (i := 191) rfl) rfl
theorem wd1392 : ((Jvm.Cond.fieldLink "EchoGorgeModel" 118 "EchoGorgeModel" "together" "[I") : Cond) ∈ GW := tw6 (List.mem_of_getElem? (i := 192) rfl) rfl
theorem wd1393 : ((Jvm.Cond.fieldLink "EchoGorgeModel" 298 "EchoGorgeModel" "hasImage" "Z") : Cond) ∈ GW := tw6 (List.mem_of_getElem? (i := 193) rfl) rfl
theorem wd1394 : ((Jvm.Cond.fieldLink "EchoGorgeModel" 458 "EchoGorgeModel" "imageSaid" "I") : Cond) ∈ GW := tw6 (List.mem_of_getElem? (i := 194) rfl) rfl
theorem wd1395 : ((Jvm.Cond.fieldLink "EchoGorgeModel" 461 "EchoGorgeModel" "imageTold" "I") : Cond) ∈ GW := tw6 (List.mem_of_getElem? (i := 195) rfl) rfl
theorem wd1396 : ((Jvm.Cond.fieldLink "EchoGorgeModel" 464 "EchoGorgeModel" "imageLong" "I") : Cond) ∈ GW := tw6 (List.mem_of_getElem? (i := 196) rfl) rfl
theorem wd1397 : ((Jvm.Cond.fieldLink "EchoGorgeModel" 121 "EchoGorgeModel" "imageSound" "[I") : Cond) ∈ GW := tw6 (List.mem_of_getElem? (i := 197) rfl) rfl
theorem wd1398 : ((Jvm.Cond.fieldLink "EchoGorgeModel" 124 "EchoGorgeModel" "imageTick" "[I") : Cond) ∈ GW := tw6 (List.mem_of_getElem? (i := 198) rfl) rfl
theorem wd1399 : ((Jvm.Cond.fieldLink "EchoGorgeModel" 127 "EchoGorgeModel" "imageTells" "[I") : Cond) ∈ GW := tw6 (List.mem_of_getElem? (i := 199) rfl) rfl
theorem wd1400 : ((Jvm.Cond.fieldLink "EchoGorgeModel" 130 "EchoGorgeModel" "imageSung" "[I") : Cond) ∈ GW := tw6 (List.mem_of_getElem? (i := 200) rfl) rfl
theorem wd1401 : ((Jvm.Cond.fieldLink "EchoGorgeModel" 133 "EchoGorgeModel" "imageStands" "[I") : Cond) ∈ GW := tw6 (List.mem_of_getElem? (i := 201) rfl) rfl
theorem wd1579 : ((Jvm.Cond.methodLink "EchoGorgeLaw" 96 ⟨"EchoGorgeModel","thrown","()I"⟩) : Cond) ∈ GW := tw7 (List.mem_of_getElem? (i := 139) rfl) rfl
theorem wd1580 : ((Jvm.Cond.instanceMethod ⟨"EchoGorgeModel","thrown","()I"⟩) : Cond) ∈ GW := tw7 (List.mem_of_getElem? (i := 140) rfl) rfl
theorem wd1581 : ((Jvm.Cond.selects "EchoGorgeModel" ⟨"EchoGorgeModel","thrown","()I"⟩ ⟨"EchoGorgeModel","thrown","()I"⟩) : Cond) ∈ GW := tw7 (List.mem_of_getElem? (i := 141) rfl) rfl
theorem wd1582 : ((Jvm.Cond.code ⟨"EchoGorgeModel","thrown","()I"⟩ prog_14_method_2_code 1 (Option.some Jvm.ClassFile.FieldType.int)) : Cond) ∈ GW := tw7 (List.mem_of_getElem? (i := 142) rfl) rfl
theorem wd1583 : ((Jvm.Cond.methodLink "EchoGorgeLaw" 89 ⟨"EchoGorgeModel","feed","(IIIII)I"⟩) : Cond) ∈ GW := tw7 (List.mem_of_getElem? (i := 143) rfl) rfl
theorem wd1584 : ((Jvm.Cond.instanceMethod ⟨"EchoGorgeModel","feed","(IIIII)I"⟩) : Cond) ∈ GW := tw7 (List.mem_of_getElem? (i := 144) rfl) rfl
theorem wd1585 : ((Jvm.Cond.selects "EchoGorgeModel" ⟨"EchoGorgeModel","feed","(IIIII)I"⟩ ⟨"EchoGorgeModel","feed","(IIIII)I"⟩) : Cond) ∈ GW := tw7 (List.mem_of_getElem? (i := 145) rfl) rfl
theorem wd1586 : ((Jvm.Cond.code ⟨"EchoGorgeModel","feed","(IIIII)I"⟩ prog_14_method_6_code 6 (Option.some Jvm.ClassFile.FieldType.int)) : Cond) ∈ GW := tw7 (List.mem_of_getElem? (i := 146) rfl) rfl
theorem wd1587 : ((Jvm.Cond.methodLink "EchoGorgeModel" 142 ⟨"EchoGorgeModel","lays","(I)V"⟩) : Cond) ∈ GW := tw7 (List.mem_of_getElem? (i := 147) rfl) rfl
theorem wd1589 : ((Jvm.Cond.instanceMethod ⟨"EchoGorgeModel","lays","(I)V"⟩) : Cond) ∈ GW := tw7 (List.mem_of_getElem? (i := 149) rfl) rfl
theorem wd1590 : ((Jvm.Cond.code ⟨"EchoGorgeModel","lays","(I)V"⟩ prog_14_method_7_code 3 (Option.none : Option Jvm.ClassFile.FieldType)) : Cond) ∈ GW := tw7 (List.mem_of_getElem? (i := 150) rfl) rfl
theorem wd1591 : ((Jvm.Cond.methodLink "EchoGorgeLaw" 95 ⟨"EchoGorgeModel","gorge","(I)I"⟩) : Cond) ∈ GW := tw7 (List.mem_of_getElem? (i := 151) rfl) rfl
theorem wd1592 : ((Jvm.Cond.instanceMethod ⟨"EchoGorgeModel","gorge","(I)I"⟩) : Cond) ∈ GW := tw7 (List.mem_of_getElem? (i := 152) rfl) rfl
theorem wd1593 : ((Jvm.Cond.selects "EchoGorgeModel" ⟨"EchoGorgeModel","gorge","(I)I"⟩ ⟨"EchoGorgeModel","gorge","(I)I"⟩) : Cond) ∈ GW := tw7 (List.mem_of_getElem? (i := 153) rfl) rfl
theorem wd1594 : ((Jvm.Cond.code ⟨"EchoGorgeModel","gorge","(I)I"⟩ prog_14_method_26_code 3 (Option.some Jvm.ClassFile.FieldType.int)) : Cond) ∈ GW := tw7 (List.mem_of_getElem? (i := 154) rfl) rfl
theorem wd1595 : ((Jvm.Cond.methodLink "EchoGorgeModel" 260 ⟨"EchoGorgeModel","right","(ZI)Z"⟩) : Cond) ∈ GW := tw7 (List.mem_of_getElem? (i := 155) rfl) rfl
theorem wd1597 : ((Jvm.Cond.instanceMethod ⟨"EchoGorgeModel","right","(ZI)Z"⟩) : Cond) ∈ GW := tw7 (List.mem_of_getElem? (i := 157) rfl) rfl
theorem wd1598 : ((Jvm.Cond.code ⟨"EchoGorgeModel","right","(ZI)Z"⟩ prog_14_method_3_code 3 (Option.some Jvm.ClassFile.FieldType.boolean)) : Cond) ∈ GW := tw7 (List.mem_of_getElem? (i := 158) rfl) rfl
theorem wd1599 : ((Jvm.Cond.methodLink "EchoGorgeModel" 194 ⟨"EchoGorgeModel","steps","()V"⟩) : Cond) ∈ GW := tw7 (List.mem_of_getElem? (i := 159) rfl) rfl
theorem wd1601 : ((Jvm.Cond.instanceMethod ⟨"EchoGorgeModel","steps","()V"⟩) : Cond) ∈ GW := tw7 (List.mem_of_getElem? (i := 161) rfl) rfl
theorem wd1602 : ((Jvm.Cond.code ⟨"EchoGorgeModel","steps","()V"⟩ prog_14_method_11_code 2 (Option.none : Option Jvm.ClassFile.FieldType)) : Cond) ∈ GW := tw7 (List.mem_of_getElem? (i := 162) rfl) rfl
theorem wd1603 : ((Jvm.Cond.methodLink "EchoGorgeModel" 152 ⟨"EchoGorgeModel","byteAt","(I)I"⟩) : Cond) ∈ GW := tw7 (List.mem_of_getElem? (i := 163) rfl) rfl
theorem wd1605 : ((Jvm.Cond.instanceMethod ⟨"EchoGorgeModel","byteAt","(I)I"⟩) : Cond) ∈ GW := tw7 (List.mem_of_getElem? (i := 165) rfl) rfl
theorem wd1606 : ((Jvm.Cond.code ⟨"EchoGorgeModel","byteAt","(I)I"⟩ prog_14_method_8_code 2 (Option.some Jvm.ClassFile.FieldType.int)) : Cond) ∈ GW := tw7 (List.mem_of_getElem? (i := 166) rfl) rfl
theorem wd1607 : ((Jvm.Cond.methodLink "EchoGorgeModel" 169 ⟨"EchoGorgeModel","isLetter","(I)Z"⟩) : Cond) ∈ GW := tw7 (List.mem_of_getElem? (i := 167) rfl) rfl
theorem wd1608 : ((Jvm.Cond.static ⟨"EchoGorgeModel","isLetter","(I)Z"⟩) : Cond) ∈ GW := tw7 (List.mem_of_getElem? (i := 168) rfl) rfl
theorem wd1609 : ((Jvm.Cond.code ⟨"EchoGorgeModel","isLetter","(I)Z"⟩ prog_14_method_9_code 1 (Option.some Jvm.ClassFile.FieldType.boolean)) : Cond) ∈ GW := tw7 (List.mem_of_getElem? (i := 169) rfl) rfl
theorem wd1610 : ((Jvm.Cond.methodLink "EchoGorgeModel" 173 ⟨"EchoGorgeModel","isDigit","(I)Z"⟩) : Cond) ∈ GW := tw7 (List.mem_of_getElem? (i := 170) rfl) rfl
theorem wd1611 : ((Jvm.Cond.static ⟨"EchoGorgeModel","isDigit","(I)Z"⟩) : Cond) ∈ GW := tw7 (List.mem_of_getElem? (i := 171) rfl) rfl
theorem wd1612 : ((Jvm.Cond.code ⟨"EchoGorgeModel","isDigit","(I)Z"⟩ prog_14_method_10_code 1 (Option.some Jvm.ClassFile.FieldType.boolean)) : Cond) ∈ GW := tw7 (List.mem_of_getElem? (i := 172) rfl) rfl
theorem wd1613 : ((Jvm.Cond.methodLink "EchoGorgeModel" 190 ⟨"EchoGorgeModel","isGood","()Z"⟩) : Cond) ∈ GW := tw7 (List.mem_of_getElem? (i := 173) rfl) rfl
theorem wd1615 : ((Jvm.Cond.instanceMethod ⟨"EchoGorgeModel","isGood","()Z"⟩) : Cond) ∈ GW := tw7 (List.mem_of_getElem? (i := 175) rfl) rfl
theorem wd1616 : ((Jvm.Cond.code ⟨"EchoGorgeModel","isGood","()Z"⟩ prog_14_method_16_code 1 (Option.some Jvm.ClassFile.FieldType.boolean)) : Cond) ∈ GW := tw7 (List.mem_of_getElem? (i := 176) rfl) rfl
theorem wd1617 : ((Jvm.Cond.methodLink "EchoGorgeModel" 264 ⟨"EchoGorgeModel","line","()V"⟩) : Cond) ∈ GW := tw7 (List.mem_of_getElem? (i := 177) rfl) rfl
theorem wd1619 : ((Jvm.Cond.instanceMethod ⟨"EchoGorgeModel","line","()V"⟩) : Cond) ∈ GW := tw7 (List.mem_of_getElem? (i := 179) rfl) rfl
theorem wd1620 : ((Jvm.Cond.code ⟨"EchoGorgeModel","line","()V"⟩ prog_14_method_25_code 1 (Option.none : Option Jvm.ClassFile.FieldType)) : Cond) ∈ GW := tw7 (List.mem_of_getElem? (i := 180) rfl) rfl
theorem wd1621 : ((Jvm.Cond.methodLink "EchoGorgeModel" 210 ⟨"EchoGorgeModel","is","(I)Z"⟩) : Cond) ∈ GW := tw7 (List.mem_of_getElem? (i := 181) rfl) rfl
theorem wd1623 : ((Jvm.Cond.instanceMethod ⟨"EchoGorgeModel","is","(I)Z"⟩) : Cond) ∈ GW := tw7 (List.mem_of_getElem? (i := 183) rfl) rfl
theorem wd1624 : ((Jvm.Cond.code ⟨"EchoGorgeModel","is","(I)Z"⟩ prog_14_method_14_code 2 (Option.some Jvm.ClassFile.FieldType.boolean)) : Cond) ∈ GW := tw7 (List.mem_of_getElem? (i := 184) rfl) rfl
theorem wd1625 : ((Jvm.Cond.methodLink "EchoGorgeModel" 183 ⟨"EchoGorgeModel","lettersOf","(I)J"⟩) : Cond) ∈ GW := tw7 (List.mem_of_getElem? (i := 185) rfl) rfl
theorem wd1626 : ((Jvm.Cond.static ⟨"EchoGorgeModel","lettersOf","(I)J"⟩) : Cond) ∈ GW := tw7 (List.mem_of_getElem? (i := 186) rfl) rfl
theorem wd1627 : ((Jvm.Cond.code ⟨"EchoGorgeModel","lettersOf","(I)J"⟩ prog_14_method_13_code 1 (Option.some Jvm.ClassFile.FieldType.long)) : Cond) ∈ GW := tw7 (List.mem_of_getElem? (i := 187) rfl) rfl
theorem wd1628 : ((Jvm.Cond.methodLink "EchoGorgeModel" 179 ⟨"EchoGorgeModel","spelled","(IIIIIIII)J"⟩) : Cond) ∈ GW := tw7 (List.mem_of_getElem? (i := 188) rfl) rfl
theorem wd1629 : ((Jvm.Cond.static ⟨"EchoGorgeModel","spelled","(IIIIIIII)J"⟩) : Cond) ∈ GW := tw7 (List.mem_of_getElem? (i := 189) rfl) rfl
theorem wd1630 : ((Jvm.Cond.code ⟨"EchoGorgeModel","spelled","(IIIIIIII)J"⟩ prog_14_method_12_code 10 (Option.some Jvm.ClassFile.FieldType.long)) : Cond) ∈ GW := tw7 (List.mem_of_getElem? (i := 190) rfl) rfl
theorem wd1631 : ((Jvm.Cond.methodLink "EchoGorgeModel" 197 ⟨"EchoGorgeModel","wrong","(I)V"⟩) : Cond) ∈ GW := tw7 (List.mem_of_getElem? (i := 191) rfl) rfl
theorem wd1633 : ((Jvm.Cond.instanceMethod ⟨"EchoGorgeModel","wrong","(I)V"⟩) : Cond) ∈ GW := tw7 (List.mem_of_getElem? (i := 193) rfl) rfl
theorem wd1634 : ((Jvm.Cond.code ⟨"EchoGorgeModel","wrong","(I)V"⟩ prog_14_method_15_code 2 (Option.none : Option Jvm.ClassFile.FieldType)) : Cond) ∈ GW := tw7 (List.mem_of_getElem? (i := 194) rfl) rfl
theorem wd1635 : ((Jvm.Cond.methodLink "EchoGorgeModel" 206 ⟨"EchoGorgeModel","number","(II)I"⟩) : Cond) ∈ GW := tw7 (List.mem_of_getElem? (i := 195) rfl) rfl
theorem wd1637 : ((Jvm.Cond.instanceMethod ⟨"EchoGorgeModel","number","(II)I"⟩) : Cond) ∈ GW := tw7 (List.mem_of_getElem? (i := 197) rfl) rfl
theorem wd1638 : ((Jvm.Cond.code ⟨"EchoGorgeModel","number","(II)I"⟩ prog_14_method_18_code 4 (Option.some Jvm.ClassFile.FieldType.int)) : Cond) ∈ GW := tw7 (List.mem_of_getElem? (i := 198) rfl) rfl
theorem wd1639 : ((Jvm.Cond.methodLink "EchoGorgeModel" 225 ⟨"EchoGorgeModel","readsWall","()V"⟩) : Cond) ∈ GW := tw7 (List.mem_of_getElem? (i := 199) rfl) rfl
theorem wd1641 : ((Jvm.Cond.instanceMethod ⟨"EchoGorgeModel","readsWall","()V"⟩) : Cond) ∈ GW := tw7 (List.mem_of_getElem? (i := 201) rfl) rfl
theorem wd1642 : ((Jvm.Cond.code ⟨"EchoGorgeModel","readsWall","()V"⟩ prog_14_method_20_code 4 (Option.none : Option Jvm.ClassFile.FieldType)) : Cond) ∈ GW := tw7 (List.mem_of_getElem? (i := 202) rfl) rfl
theorem wd1643 : ((Jvm.Cond.methodLink "EchoGorgeModel" 232 ⟨"EchoGorgeModel","readsAir","()V"⟩) : Cond) ∈ GW := tw7 (List.mem_of_getElem? (i := 203) rfl) rfl
theorem wd1645 : ((Jvm.Cond.instanceMethod ⟨"EchoGorgeModel","readsAir","()V"⟩) : Cond) ∈ GW := tw7 (List.mem_of_getElem? (i := 205) rfl) rfl
theorem wd1646 : ((Jvm.Cond.code ⟨"EchoGorgeModel","readsAir","()V"⟩ prog_14_method_24_code 2 (Option.none : Option Jvm.ClassFile.FieldType)) : Cond) ∈ GW := tw7 (List.mem_of_getElem? (i := 206) rfl) rfl
theorem wd1647 : ((Jvm.Cond.methodLink "EchoGorgeModel" 247 ⟨"EchoGorgeModel","readsSweet","()V"⟩) : Cond) ∈ GW := tw7 (List.mem_of_getElem? (i := 207) rfl) rfl
theorem wd1649 : ((Jvm.Cond.instanceMethod ⟨"EchoGorgeModel","readsSweet","()V"⟩) : Cond) ∈ GW := tw7 (List.mem_of_getElem? (i := 209) rfl) rfl
theorem wd1650 : ((Jvm.Cond.code ⟨"EchoGorgeModel","readsSweet","()V"⟩ prog_14_method_21_code 2 (Option.none : Option Jvm.ClassFile.FieldType)) : Cond) ∈ GW := tw7 (List.mem_of_getElem? (i := 210) rfl) rfl
theorem wd1651 : ((Jvm.Cond.methodLink "EchoGorgeModel" 213 ⟨"EchoGorgeModel","soundHere","()Z"⟩) : Cond) ∈ GW := tw7 (List.mem_of_getElem? (i := 211) rfl) rfl
theorem wd1653 : ((Jvm.Cond.instanceMethod ⟨"EchoGorgeModel","soundHere","()Z"⟩) : Cond) ∈ GW := tw7 (List.mem_of_getElem? (i := 213) rfl) rfl
theorem wd1654 : ((Jvm.Cond.code ⟨"EchoGorgeModel","soundHere","()Z"⟩ prog_14_method_19_code 1 (Option.some Jvm.ClassFile.FieldType.boolean)) : Cond) ∈ GW := tw7 (List.mem_of_getElem? (i := 214) rfl) rfl
theorem wd1655 : ((Jvm.Cond.methodLink "EchoGorgeModel" 250 ⟨"EchoGorgeModel","readsWord","()V"⟩) : Cond) ∈ GW := tw7 (List.mem_of_getElem? (i := 215) rfl) rfl
theorem wd1657 : ((Jvm.Cond.instanceMethod ⟨"EchoGorgeModel","readsWord","()V"⟩) : Cond) ∈ GW := tw7 (List.mem_of_getElem? (i := 217) rfl) rfl
theorem wd1658 : ((Jvm.Cond.code ⟨"EchoGorgeModel","readsWord","()V"⟩ prog_14_method_22_code 3 (Option.none : Option Jvm.ClassFile.FieldType)) : Cond) ∈ GW := tw7 (List.mem_of_getElem? (i := 218) rfl) rfl
theorem wd1659 : ((Jvm.Cond.methodLink "EchoGorgeModel" 253 ⟨"EchoGorgeModel","readsForm","()V"⟩) : Cond) ∈ GW := tw7 (List.mem_of_getElem? (i := 219) rfl) rfl
theorem wd1661 : ((Jvm.Cond.instanceMethod ⟨"EchoGorgeModel","readsForm","()V"⟩) : Cond) ∈ GW := tw7 (List.mem_of_getElem? (i := 221) rfl) rfl
theorem wd1662 : ((Jvm.Cond.code ⟨"EchoGorgeModel","readsForm","()V"⟩ prog_14_method_23_code 4 (Option.none : Option Jvm.ClassFile.FieldType)) : Cond) ∈ GW := tw7 (List.mem_of_getElem? (i := 222) rfl) rfl
theorem wd1663 : ((Jvm.Cond.methodLink "EchoGorgeModel" 256 ⟨"EchoGorgeModel","need","(Z)V"⟩) : Cond) ∈ GW := tw7 (List.mem_of_getElem? (i := 223) rfl) rfl
theorem wd1665 : ((Jvm.Cond.instanceMethod ⟨"EchoGorgeModel","need","(Z)V"⟩) : Cond) ∈ GW := tw7 (List.mem_of_getElem? (i := 225) rfl) rfl
theorem wd1666 : ((Jvm.Cond.code ⟨"EchoGorgeModel","need","(Z)V"⟩ prog_14_method_17_code 2 (Option.none : Option Jvm.ClassFile.FieldType)) : Cond) ∈ GW := tw7 (List.mem_of_getElem? (i := 226) rfl) rfl
theorem wd1667 : ((Jvm.Cond.methodLink "EchoGorgeModel" 285 ⟨"EchoGorgeModel","copies","([I[I)V"⟩) : Cond) ∈ GW := tw7 (List.mem_of_getElem? (i := 227) rfl) rfl
theorem wd1669 : ((Jvm.Cond.instanceMethod ⟨"EchoGorgeModel","copies","([I[I)V"⟩) : Cond) ∈ GW := tw7 (List.mem_of_getElem? (i := 229) rfl) rfl
theorem wd1670 : ((Jvm.Cond.code ⟨"EchoGorgeModel","copies","([I[I)V"⟩ prog_14_method_5_code 4 (Option.none : Option Jvm.ClassFile.FieldType)) : Cond) ∈ GW := tw7 (List.mem_of_getElem? (i := 230) rfl) rfl
theorem wd1671 : ((Jvm.Cond.methodLink "EchoGorgeLaw" 103 ⟨"EchoGorgeModel","fault","()I"⟩) : Cond) ∈ GW := tw7 (List.mem_of_getElem? (i := 231) rfl) rfl
theorem wd1672 : ((Jvm.Cond.instanceMethod ⟨"EchoGorgeModel","fault","()I"⟩) : Cond) ∈ GW := tw7 (List.mem_of_getElem? (i := 232) rfl) rfl
theorem wd1673 : ((Jvm.Cond.selects "EchoGorgeModel" ⟨"EchoGorgeModel","fault","()I"⟩ ⟨"EchoGorgeModel","fault","()I"⟩) : Cond) ∈ GW := tw7 (List.mem_of_getElem? (i := 233) rfl) rfl
theorem wd1674 : ((Jvm.Cond.code ⟨"EchoGorgeModel","fault","()I"⟩ prog_14_method_27_code 1 (Option.some Jvm.ClassFile.FieldType.int)) : Cond) ∈ GW := tw7 (List.mem_of_getElem? (i := 234) rfl) rfl
theorem wd1675 : ((Jvm.Cond.methodLink "EchoGorgeLaw" 106 ⟨"EchoGorgeModel","count","(I)I"⟩) : Cond) ∈ GW := tw7 (List.mem_of_getElem? (i := 235) rfl) rfl
theorem wd1676 : ((Jvm.Cond.instanceMethod ⟨"EchoGorgeModel","count","(I)I"⟩) : Cond) ∈ GW := tw7 (List.mem_of_getElem? (i := 236) rfl) rfl
theorem wd1677 : ((Jvm.Cond.selects "EchoGorgeModel" ⟨"EchoGorgeModel","count","(I)I"⟩ ⟨"EchoGorgeModel","count","(I)I"⟩) : Cond) ∈ GW := tw7 (List.mem_of_getElem? (i := 237) rfl) rfl
theorem wd1678 : ((Jvm.Cond.code ⟨"EchoGorgeModel","count","(I)I"⟩ prog_14_method_28_code 2 (Option.some Jvm.ClassFile.FieldType.int)) : Cond) ∈ GW := tw7 (List.mem_of_getElem? (i := 238) rfl) rfl
theorem wd1679 : ((Jvm.Cond.methodLink "EchoGorgeModel" 301 ⟨"EchoGorgeModel","within","(III)Z"⟩) : Cond) ∈ GW := tw7 (List.mem_of_getElem? (i := 239) rfl) rfl
theorem wd1680 : ((Jvm.Cond.static ⟨"EchoGorgeModel","within","(III)Z"⟩) : Cond) ∈ GW := tw8 (List.mem_of_getElem? (i := 0) rfl) rfl
theorem wd1681 : ((Jvm.Cond.code ⟨"EchoGorgeModel","within","(III)Z"⟩ prog_14_method_4_code 3 (Option.some Jvm.ClassFile.FieldType.boolean)) : Cond) ∈ GW := tw8 (List.mem_of_getElem? (i := 1) rfl) rfl
theorem wd1682 : ((Jvm.Cond.methodLink "EchoGorgeModel" 305 ⟨"EchoGorgeModel","allLines","()I"⟩) : Cond) ∈ GW := tw8 (List.mem_of_getElem? (i := 2) rfl) rfl
theorem wd1684 : ((Jvm.Cond.instanceMethod ⟨"EchoGorgeModel","allLines","()I"⟩) : Cond) ∈ GW := tw8 (List.mem_of_getElem? (i := 4) rfl) rfl
theorem wd1685 : ((Jvm.Cond.code ⟨"EchoGorgeModel","allLines","()I"⟩ prog_14_method_45_code 3 (Option.some Jvm.ClassFile.FieldType.int)) : Cond) ∈ GW := tw8 (List.mem_of_getElem? (i := 5) rfl) rfl
theorem wd1686 : ((Jvm.Cond.methodLink "EchoGorgeModel" 350 ⟨"EchoGorgeModel","linesOf","(I)I"⟩) : Cond) ∈ GW := tw8 (List.mem_of_getElem? (i := 6) rfl) rfl
theorem wd1688 : ((Jvm.Cond.instanceMethod ⟨"EchoGorgeModel","linesOf","(I)I"⟩) : Cond) ∈ GW := tw8 (List.mem_of_getElem? (i := 8) rfl) rfl
theorem wd1689 : ((Jvm.Cond.code ⟨"EchoGorgeModel","linesOf","(I)I"⟩ prog_14_method_44_code 4 (Option.some Jvm.ClassFile.FieldType.int)) : Cond) ∈ GW := tw8 (List.mem_of_getElem? (i := 9) rfl) rfl
theorem wd1690 : ((Jvm.Cond.methodLink "EchoGorgeModel" 344 ⟨"EchoGorgeModel","kindOf","(II)I"⟩) : Cond) ∈ GW := tw8 (List.mem_of_getElem? (i := 10) rfl) rfl
theorem wd1692 : ((Jvm.Cond.instanceMethod ⟨"EchoGorgeModel","kindOf","(II)I"⟩) : Cond) ∈ GW := tw8 (List.mem_of_getElem? (i := 12) rfl) rfl
theorem wd1693 : ((Jvm.Cond.code ⟨"EchoGorgeModel","kindOf","(II)I"⟩ prog_14_method_42_code 3 (Option.some Jvm.ClassFile.FieldType.int)) : Cond) ∈ GW := tw8 (List.mem_of_getElem? (i := 13) rfl) rfl
theorem wd1694 : ((Jvm.Cond.methodLink "EchoGorgeModel" 347 ⟨"EchoGorgeModel","wordsOf","(I)I"⟩) : Cond) ∈ GW := tw8 (List.mem_of_getElem? (i := 14) rfl) rfl
theorem wd1696 : ((Jvm.Cond.instanceMethod ⟨"EchoGorgeModel","wordsOf","(I)I"⟩) : Cond) ∈ GW := tw8 (List.mem_of_getElem? (i := 16) rfl) rfl
theorem wd1697 : ((Jvm.Cond.code ⟨"EchoGorgeModel","wordsOf","(I)I"⟩ prog_14_method_43_code 4 (Option.some Jvm.ClassFile.FieldType.int)) : Cond) ∈ GW := tw8 (List.mem_of_getElem? (i := 17) rfl) rfl
theorem wd1698 : ((Jvm.Cond.methodLink "EchoGorgeLaw" 110 ⟨"EchoGorgeModel","wall","(II)I"⟩) : Cond) ∈ GW := tw8 (List.mem_of_getElem? (i := 18) rfl) rfl
theorem wd1699 : ((Jvm.Cond.instanceMethod ⟨"EchoGorgeModel","wall","(II)I"⟩) : Cond) ∈ GW := tw8 (List.mem_of_getElem? (i := 19) rfl) rfl
theorem wd1700 : ((Jvm.Cond.selects "EchoGorgeModel" ⟨"EchoGorgeModel","wall","(II)I"⟩ ⟨"EchoGorgeModel","wall","(II)I"⟩) : Cond) ∈ GW := tw8 (List.mem_of_getElem? (i := 20) rfl) rfl
theorem wd1701 : ((Jvm.Cond.code ⟨"EchoGorgeModel","wall","(II)I"⟩ prog_14_method_29_code 3 (Option.some Jvm.ClassFile.FieldType.int)) : Cond) ∈ GW := tw8 (List.mem_of_getElem? (i := 21) rfl) rfl
theorem wd1702 : ((Jvm.Cond.methodLink "EchoGorgeLaw" 113 ⟨"EchoGorgeModel","word","(II)I"⟩) : Cond) ∈ GW := tw8 (List.mem_of_getElem? (i := 22) rfl) rfl
theorem wd1703 : ((Jvm.Cond.instanceMethod ⟨"EchoGorgeModel","word","(II)I"⟩) : Cond) ∈ GW := tw8 (List.mem_of_getElem? (i := 23) rfl) rfl
theorem wd1704 : ((Jvm.Cond.selects "EchoGorgeModel" ⟨"EchoGorgeModel","word","(II)I"⟩ ⟨"EchoGorgeModel","word","(II)I"⟩) : Cond) ∈ GW := tw8 (List.mem_of_getElem? (i := 24) rfl) rfl
theorem wd1705 : ((Jvm.Cond.code ⟨"EchoGorgeModel","word","(II)I"⟩ prog_14_method_30_code 3 (Option.some Jvm.ClassFile.FieldType.int)) : Cond) ∈ GW := tw8 (List.mem_of_getElem? (i := 25) rfl) rfl
theorem wd1706 : ((Jvm.Cond.methodLink "EchoGorgeLaw" 116 ⟨"EchoGorgeModel","say","(II)I"⟩) : Cond) ∈ GW := tw8 (List.mem_of_getElem? (i := 26) rfl) rfl
theorem wd1707 : ((Jvm.Cond.instanceMethod ⟨"EchoGorgeModel","say","(II)I"⟩) : Cond) ∈ GW := tw8 (List.mem_of_getElem? (i := 27) rfl) rfl
theorem wd1708 : ((Jvm.Cond.selects "EchoGorgeModel" ⟨"EchoGorgeModel","say","(II)I"⟩ ⟨"EchoGorgeModel","say","(II)I"⟩) : Cond) ∈ GW := tw8 (List.mem_of_getElem? (i := 28) rfl) rfl
theorem wd1709 : ((Jvm.Cond.code ⟨"EchoGorgeModel","say","(II)I"⟩ prog_14_method_36_code 5 (Option.some Jvm.ClassFile.FieldType.int)) : Cond) ∈ GW := tw8 (List.mem_of_getElem? (i := 29) rfl) rfl
theorem wd1710 : ((Jvm.Cond.methodLink "EchoGorgeModel" 325 ⟨"EchoGorgeModel","isSound","(I)Z"⟩) : Cond) ∈ GW := tw8 (List.mem_of_getElem? (i := 30) rfl) rfl
theorem wd1712 : ((Jvm.Cond.instanceMethod ⟨"EchoGorgeModel","isSound","(I)Z"⟩) : Cond) ∈ GW := tw8 (List.mem_of_getElem? (i := 32) rfl) rfl
theorem wd1713 : ((Jvm.Cond.code ⟨"EchoGorgeModel","isSound","(I)Z"⟩ prog_14_method_31_code 2 (Option.some Jvm.ClassFile.FieldType.boolean)) : Cond) ∈ GW := tw8 (List.mem_of_getElem? (i := 33) rfl) rfl
theorem wd1714 : ((Jvm.Cond.methodLink "EchoGorgeLaw" 120 ⟨"EchoGorgeModel","hush","()I"⟩) : Cond) ∈ GW := tw8 (List.mem_of_getElem? (i := 34) rfl) rfl
theorem wd1715 : ((Jvm.Cond.instanceMethod ⟨"EchoGorgeModel","hush","()I"⟩) : Cond) ∈ GW := tw8 (List.mem_of_getElem? (i := 35) rfl) rfl
theorem wd1716 : ((Jvm.Cond.selects "EchoGorgeModel" ⟨"EchoGorgeModel","hush","()I"⟩ ⟨"EchoGorgeModel","hush","()I"⟩) : Cond) ∈ GW := tw8 (List.mem_of_getElem? (i := 36) rfl) rfl
theorem wd1717 : ((Jvm.Cond.code ⟨"EchoGorgeModel","hush","()I"⟩ prog_14_method_37_code 2 (Option.some Jvm.ClassFile.FieldType.int)) : Cond) ∈ GW := tw8 (List.mem_of_getElem? (i := 37) rfl) rfl
theorem wd1718 : ((Jvm.Cond.methodLink "EchoGorgeLaw" 124 ⟨"EchoGorgeModel","heard","(III)I"⟩) : Cond) ∈ GW := tw8 (List.mem_of_getElem? (i := 38) rfl) rfl
theorem wd1719 : ((Jvm.Cond.instanceMethod ⟨"EchoGorgeModel","heard","(III)I"⟩) : Cond) ∈ GW := tw8 (List.mem_of_getElem? (i := 39) rfl) rfl
theorem wd1720 : ((Jvm.Cond.selects "EchoGorgeModel" ⟨"EchoGorgeModel","heard","(III)I"⟩ ⟨"EchoGorgeModel","heard","(III)I"⟩) : Cond) ∈ GW := tw8 (List.mem_of_getElem? (i := 40) rfl) rfl
theorem wd1721 : ((Jvm.Cond.code ⟨"EchoGorgeModel","heard","(III)I"⟩ prog_14_method_40_code 4 (Option.some Jvm.ClassFile.FieldType.int)) : Cond) ∈ GW := tw8 (List.mem_of_getElem? (i := 41) rfl) rfl
theorem wd1722 : ((Jvm.Cond.methodLink "EchoGorgeModel" 335 ⟨"EchoGorgeModel","isWhere","(III)Z"⟩) : Cond) ∈ GW := tw8 (List.mem_of_getElem? (i := 42) rfl) rfl
theorem wd1724 : ((Jvm.Cond.instanceMethod ⟨"EchoGorgeModel","isWhere","(III)Z"⟩) : Cond) ∈ GW := tw8 (List.mem_of_getElem? (i := 44) rfl) rfl
theorem wd1725 : ((Jvm.Cond.code ⟨"EchoGorgeModel","isWhere","(III)Z"⟩ prog_14_method_38_code 4 (Option.some Jvm.ClassFile.FieldType.boolean)) : Cond) ∈ GW := tw8 (List.mem_of_getElem? (i := 45) rfl) rfl
theorem wd1726 : ((Jvm.Cond.methodLink "EchoGorgeModel" 338 ⟨"EchoGorgeModel","allSaid","(III)V"⟩) : Cond) ∈ GW := tw8 (List.mem_of_getElem? (i := 46) rfl) rfl
theorem wd1728 : ((Jvm.Cond.instanceMethod ⟨"EchoGorgeModel","allSaid","(III)V"⟩) : Cond) ∈ GW := tw8 (List.mem_of_getElem? (i := 48) rfl) rfl
theorem wd1729 : ((Jvm.Cond.code ⟨"EchoGorgeModel","allSaid","(III)V"⟩ prog_14_method_39_code 5 (Option.none : Option Jvm.ClassFile.FieldType)) : Cond) ∈ GW := tw8 (List.mem_of_getElem? (i := 49) rfl) rfl
theorem wd1730 : ((Jvm.Cond.methodLink "EchoGorgeModel" 328 ⟨"EchoGorgeModel","opens","(III)V"⟩) : Cond) ∈ GW := tw8 (List.mem_of_getElem? (i := 50) rfl) rfl
theorem wd1732 : ((Jvm.Cond.instanceMethod ⟨"EchoGorgeModel","opens","(III)V"⟩) : Cond) ∈ GW := tw8 (List.mem_of_getElem? (i := 52) rfl) rfl
theorem wd1733 : ((Jvm.Cond.code ⟨"EchoGorgeModel","opens","(III)V"⟩ prog_14_method_32_code 5 (Option.none : Option Jvm.ClassFile.FieldType)) : Cond) ∈ GW := tw8 (List.mem_of_getElem? (i := 53) rfl) rfl
theorem wd1734 : ((Jvm.Cond.methodLink "EchoGorgeModel" 331 ⟨"EchoGorgeModel","says","(II)V"⟩) : Cond) ∈ GW := tw8 (List.mem_of_getElem? (i := 54) rfl) rfl
theorem wd1736 : ((Jvm.Cond.instanceMethod ⟨"EchoGorgeModel","says","(II)V"⟩) : Cond) ∈ GW := tw8 (List.mem_of_getElem? (i := 56) rfl) rfl
theorem wd1737 : ((Jvm.Cond.code ⟨"EchoGorgeModel","says","(II)V"⟩ prog_14_method_34_code 7 (Option.none : Option Jvm.ClassFile.FieldType)) : Cond) ∈ GW := tw8 (List.mem_of_getElem? (i := 57) rfl) rfl
theorem wd1738 : ((Jvm.Cond.methodLink "EchoGorgeModel" 318 ⟨"EchoGorgeModel","comes","(III)V"⟩) : Cond) ∈ GW := tw8 (List.mem_of_getElem? (i := 58) rfl) rfl
theorem wd1740 : ((Jvm.Cond.instanceMethod ⟨"EchoGorgeModel","comes","(III)V"⟩) : Cond) ∈ GW := tw8 (List.mem_of_getElem? (i := 60) rfl) rfl
theorem wd1741 : ((Jvm.Cond.code ⟨"EchoGorgeModel","comes","(III)V"⟩ prog_14_method_33_code 4 (Option.none : Option Jvm.ClassFile.FieldType)) : Cond) ∈ GW := tw8 (List.mem_of_getElem? (i := 61) rfl) rfl
theorem wd1742 : ((Jvm.Cond.methodLink "EchoGorgeModel" 341 ⟨"EchoGorgeModel","hears","(I)I"⟩) : Cond) ∈ GW := tw8 (List.mem_of_getElem? (i := 62) rfl) rfl
theorem wd1744 : ((Jvm.Cond.instanceMethod ⟨"EchoGorgeModel","hears","(I)I"⟩) : Cond) ∈ GW := tw8 (List.mem_of_getElem? (i := 64) rfl) rfl
theorem wd1745 : ((Jvm.Cond.code ⟨"EchoGorgeModel","hears","(I)I"⟩ prog_14_method_35_code 5 (Option.some Jvm.ClassFile.FieldType.int)) : Cond) ∈ GW := tw8 (List.mem_of_getElem? (i := 65) rfl) rfl
theorem wd1746 : ((Jvm.Cond.methodLink "EchoGorgeLaw" 128 ⟨"EchoGorgeModel","loud","(IIII)I"⟩) : Cond) ∈ GW := tw8 (List.mem_of_getElem? (i := 66) rfl) rfl
theorem wd1747 : ((Jvm.Cond.instanceMethod ⟨"EchoGorgeModel","loud","(IIII)I"⟩) : Cond) ∈ GW := tw8 (List.mem_of_getElem? (i := 67) rfl) rfl
theorem wd1748 : ((Jvm.Cond.selects "EchoGorgeModel" ⟨"EchoGorgeModel","loud","(IIII)I"⟩ ⟨"EchoGorgeModel","loud","(IIII)I"⟩) : Cond) ∈ GW := tw8 (List.mem_of_getElem? (i := 68) rfl) rfl
theorem wd1749 : ((Jvm.Cond.code ⟨"EchoGorgeModel","loud","(IIII)I"⟩ prog_14_method_41_code 5 (Option.some Jvm.ClassFile.FieldType.int)) : Cond) ∈ GW := tw8 (List.mem_of_getElem? (i := 69) rfl) rfl
theorem wd1750 : ((Jvm.Cond.methodLink "EchoGorgeLaw" 131 ⟨"EchoGorgeModel","lines","(II)I"⟩) : Cond) ∈ GW := tw8 (List.mem_of_getElem? (i := 70) rfl) rfl
theorem wd1751 : ((Jvm.Cond.instanceMethod ⟨"EchoGorgeModel","lines","(II)I"⟩) : Cond) ∈ GW := tw8 (List.mem_of_getElem? (i := 71) rfl) rfl
theorem wd1752 : ((Jvm.Cond.selects "EchoGorgeModel" ⟨"EchoGorgeModel","lines","(II)I"⟩ ⟨"EchoGorgeModel","lines","(II)I"⟩) : Cond) ∈ GW := tw8 (List.mem_of_getElem? (i := 72) rfl) rfl
theorem wd1753 : ((Jvm.Cond.code ⟨"EchoGorgeModel","lines","(II)I"⟩ prog_14_method_59_code 5 (Option.some Jvm.ClassFile.FieldType.int)) : Cond) ∈ GW := tw8 (List.mem_of_getElem? (i := 73) rfl) rfl
theorem wd1754 : ((Jvm.Cond.methodLink "EchoGorgeModel" 408 ⟨"EchoGorgeModel","isHour","(I)Z"⟩) : Cond) ∈ GW := tw8 (List.mem_of_getElem? (i := 74) rfl) rfl
theorem wd1756 : ((Jvm.Cond.instanceMethod ⟨"EchoGorgeModel","isHour","(I)Z"⟩) : Cond) ∈ GW := tw8 (List.mem_of_getElem? (i := 76) rfl) rfl
theorem wd1757 : ((Jvm.Cond.code ⟨"EchoGorgeModel","isHour","(I)Z"⟩ prog_14_method_58_code 2 (Option.some Jvm.ClassFile.FieldType.boolean)) : Cond) ∈ GW := tw8 (List.mem_of_getElem? (i := 77) rfl) rfl
theorem wd1758 : ((Jvm.Cond.methodLink "EchoGorgeModel" 411 ⟨"EchoGorgeModel","goesThrough","(I)V"⟩) : Cond) ∈ GW := tw8 (List.mem_of_getElem? (i := 78) rfl) rfl
theorem wd1760 : ((Jvm.Cond.instanceMethod ⟨"EchoGorgeModel","goesThrough","(I)V"⟩) : Cond) ∈ GW := tw8 (List.mem_of_getElem? (i := 80) rfl) rfl
theorem wd1761 : ((Jvm.Cond.code ⟨"EchoGorgeModel","goesThrough","(I)V"⟩ prog_14_method_56_code 4 (Option.none : Option Jvm.ClassFile.FieldType)) : Cond) ∈ GW := tw8 (List.mem_of_getElem? (i := 81) rfl) rfl
theorem wd1762 : ((Jvm.Cond.methodLink "EchoGorgeModel" 393 ⟨"EchoGorgeModel","firstLine","()Z"⟩) : Cond) ∈ GW := tw8 (List.mem_of_getElem? (i := 82) rfl) rfl
theorem wd1764 : ((Jvm.Cond.instanceMethod ⟨"EchoGorgeModel","firstLine","()Z"⟩) : Cond) ∈ GW := tw8 (List.mem_of_getElem? (i := 84) rfl) rfl
theorem wd1765 : ((Jvm.Cond.code ⟨"EchoGorgeModel","firstLine","()Z"⟩ prog_14_method_47_code 1 (Option.some Jvm.ClassFile.FieldType.boolean)) : Cond) ∈ GW := tw8 (List.mem_of_getElem? (i := 85) rfl) rfl
theorem wd1766 : ((Jvm.Cond.methodLink "EchoGorgeModel" 356 ⟨"EchoGorgeModel","nextForm","()Z"⟩) : Cond) ∈ GW := tw8 (List.mem_of_getElem? (i := 86) rfl) rfl
theorem wd1768 : ((Jvm.Cond.instanceMethod ⟨"EchoGorgeModel","nextForm","()Z"⟩) : Cond) ∈ GW := tw8 (List.mem_of_getElem? (i := 88) rfl) rfl
theorem wd1769 : ((Jvm.Cond.code ⟨"EchoGorgeModel","nextForm","()Z"⟩ prog_14_method_48_code 2 (Option.some Jvm.ClassFile.FieldType.boolean)) : Cond) ∈ GW := tw8 (List.mem_of_getElem? (i := 89) rfl) rfl
theorem wd1770 : ((Jvm.Cond.methodLink "EchoGorgeModel" 359 ⟨"EchoGorgeModel","wordBehind","(II)I"⟩) : Cond) ∈ GW := tw8 (List.mem_of_getElem? (i := 90) rfl) rfl
theorem wd1772 : ((Jvm.Cond.instanceMethod ⟨"EchoGorgeModel","wordBehind","(II)I"⟩) : Cond) ∈ GW := tw8 (List.mem_of_getElem? (i := 92) rfl) rfl
theorem wd1773 : ((Jvm.Cond.code ⟨"EchoGorgeModel","wordBehind","(II)I"⟩ prog_14_method_46_code 4 (Option.some Jvm.ClassFile.FieldType.int)) : Cond) ∈ GW := tw8 (List.mem_of_getElem? (i := 93) rfl) rfl
theorem wd1774 : ((Jvm.Cond.methodLink "EchoGorgeModel" 396 ⟨"EchoGorgeModel","answers","(I)Z"⟩) : Cond) ∈ GW := tw8 (List.mem_of_getElem? (i := 94) rfl) rfl
theorem wd1776 : ((Jvm.Cond.instanceMethod ⟨"EchoGorgeModel","answers","(I)Z"⟩) : Cond) ∈ GW := tw8 (List.mem_of_getElem? (i := 96) rfl) rfl
theorem wd1777 : ((Jvm.Cond.code ⟨"EchoGorgeModel","answers","(I)Z"⟩ prog_14_method_54_code 2 (Option.some Jvm.ClassFile.FieldType.boolean)) : Cond) ∈ GW := tw8 (List.mem_of_getElem? (i := 97) rfl) rfl
theorem wd1778 : ((Jvm.Cond.methodLink "EchoGorgeModel" 375 ⟨"EchoGorgeModel","returns","(I)V"⟩) : Cond) ∈ GW := tw8 (List.mem_of_getElem? (i := 98) rfl) rfl
theorem wd1780 : ((Jvm.Cond.instanceMethod ⟨"EchoGorgeModel","returns","(I)V"⟩) : Cond) ∈ GW := tw8 (List.mem_of_getElem? (i := 100) rfl) rfl
theorem wd1781 : ((Jvm.Cond.code ⟨"EchoGorgeModel","returns","(I)V"⟩ prog_14_method_51_code 4 (Option.none : Option Jvm.ClassFile.FieldType)) : Cond) ∈ GW := tw8 (List.mem_of_getElem? (i := 101) rfl) rfl
theorem wd1782 : ((Jvm.Cond.methodLink "EchoGorgeModel" 365 ⟨"EchoGorgeModel","speaks","()V"⟩) : Cond) ∈ GW := tw8 (List.mem_of_getElem? (i := 102) rfl) rfl
theorem wd1784 : ((Jvm.Cond.instanceMethod ⟨"EchoGorgeModel","speaks","()V"⟩) : Cond) ∈ GW := tw8 (List.mem_of_getElem? (i := 104) rfl) rfl
theorem wd1785 : ((Jvm.Cond.code ⟨"EchoGorgeModel","speaks","()V"⟩ prog_14_method_50_code 3 (Option.none : Option Jvm.ClassFile.FieldType)) : Cond) ∈ GW := tw8 (List.mem_of_getElem? (i := 105) rfl) rfl
theorem wd1786 : ((Jvm.Cond.methodLink "EchoGorgeModel" 378 ⟨"EchoGorgeModel","isLine","()Z"⟩) : Cond) ∈ GW := tw8 (List.mem_of_getElem? (i := 106) rfl) rfl
theorem wd1788 : ((Jvm.Cond.instanceMethod ⟨"EchoGorgeModel","isLine","()Z"⟩) : Cond) ∈ GW := tw8 (List.mem_of_getElem? (i := 108) rfl) rfl
theorem wd1789 : ((Jvm.Cond.code ⟨"EchoGorgeModel","isLine","()Z"⟩ prog_14_method_53_code 7 (Option.some Jvm.ClassFile.FieldType.boolean)) : Cond) ∈ GW := tw8 (List.mem_of_getElem? (i := 109) rfl) rfl
theorem wd1790 : ((Jvm.Cond.methodLink "EchoGorgeModel" 371 ⟨"EchoGorgeModel","isWordAt","(II)Z"⟩) : Cond) ∈ GW := tw8 (List.mem_of_getElem? (i := 110) rfl) rfl
theorem wd1792 : ((Jvm.Cond.instanceMethod ⟨"EchoGorgeModel","isWordAt","(II)Z"⟩) : Cond) ∈ GW := tw8 (List.mem_of_getElem? (i := 112) rfl) rfl
theorem wd1793 : ((Jvm.Cond.code ⟨"EchoGorgeModel","isWordAt","(II)Z"⟩ prog_14_method_52_code 4 (Option.some Jvm.ClassFile.FieldType.boolean)) : Cond) ∈ GW := tw8 (List.mem_of_getElem? (i := 113) rfl) rfl
theorem wd1794 : ((Jvm.Cond.methodLink "EchoGorgeModel" 399 ⟨"EchoGorgeModel","isEchoed","()Z"⟩) : Cond) ∈ GW := tw8 (List.mem_of_getElem? (i := 114) rfl) rfl
theorem wd1796 : ((Jvm.Cond.instanceMethod ⟨"EchoGorgeModel","isEchoed","()Z"⟩) : Cond) ∈ GW := tw8 (List.mem_of_getElem? (i := 116) rfl) rfl
theorem wd1797 : ((Jvm.Cond.code ⟨"EchoGorgeModel","isEchoed","()Z"⟩ prog_14_method_55_code 2 (Option.some Jvm.ClassFile.FieldType.boolean)) : Cond) ∈ GW := tw8 (List.mem_of_getElem? (i := 117) rfl) rfl
theorem wd1798 : ((Jvm.Cond.methodLink "EchoGorgeModel" 405 ⟨"EchoGorgeModel","nextLine","()Z"⟩) : Cond) ∈ GW := tw8 (List.mem_of_getElem? (i := 118) rfl) rfl
theorem wd1800 : ((Jvm.Cond.instanceMethod ⟨"EchoGorgeModel","nextLine","()Z"⟩) : Cond) ∈ GW := tw8 (List.mem_of_getElem? (i := 120) rfl) rfl
theorem wd1801 : ((Jvm.Cond.code ⟨"EchoGorgeModel","nextLine","()Z"⟩ prog_14_method_49_code 4 (Option.some Jvm.ClassFile.FieldType.boolean)) : Cond) ∈ GW := tw8 (List.mem_of_getElem? (i := 121) rfl) rfl
theorem wd1802 : ((Jvm.Cond.methodLink "EchoGorgeModel" 414 ⟨"EchoGorgeModel","bits","(I)I"⟩) : Cond) ∈ GW := tw8 (List.mem_of_getElem? (i := 122) rfl) rfl
theorem wd1803 : ((Jvm.Cond.static ⟨"EchoGorgeModel","bits","(I)I"⟩) : Cond) ∈ GW := tw8 (List.mem_of_getElem? (i := 123) rfl) rfl
theorem wd1804 : ((Jvm.Cond.code ⟨"EchoGorgeModel","bits","(I)I"⟩ prog_14_method_57_code 3 (Option.some Jvm.ClassFile.FieldType.int)) : Cond) ∈ GW := tw8 (List.mem_of_getElem? (i := 124) rfl) rfl
theorem wd1805 : ((Jvm.Cond.methodLink "EchoGorgeLaw" 134 ⟨"EchoGorgeModel","line","(III)I"⟩) : Cond) ∈ GW := tw8 (List.mem_of_getElem? (i := 125) rfl) rfl
theorem wd1806 : ((Jvm.Cond.instanceMethod ⟨"EchoGorgeModel","line","(III)I"⟩) : Cond) ∈ GW := tw8 (List.mem_of_getElem? (i := 126) rfl) rfl
theorem wd1807 : ((Jvm.Cond.selects "EchoGorgeModel" ⟨"EchoGorgeModel","line","(III)I"⟩ ⟨"EchoGorgeModel","line","(III)I"⟩) : Cond) ∈ GW := tw8 (List.mem_of_getElem? (i := 127) rfl) rfl
theorem wd1808 : ((Jvm.Cond.code ⟨"EchoGorgeModel","line","(III)I"⟩ prog_14_method_60_code 6 (Option.some Jvm.ClassFile.FieldType.int)) : Cond) ∈ GW := tw8 (List.mem_of_getElem? (i := 128) rfl) rfl
theorem wd1809 : ((Jvm.Cond.methodLink "EchoGorgeLaw" 137 ⟨"EchoGorgeModel","still","(II)I"⟩) : Cond) ∈ GW := tw8 (List.mem_of_getElem? (i := 129) rfl) rfl
theorem wd1810 : ((Jvm.Cond.instanceMethod ⟨"EchoGorgeModel","still","(II)I"⟩) : Cond) ∈ GW := tw8 (List.mem_of_getElem? (i := 130) rfl) rfl
theorem wd1811 : ((Jvm.Cond.selects "EchoGorgeModel" ⟨"EchoGorgeModel","still","(II)I"⟩ ⟨"EchoGorgeModel","still","(II)I"⟩) : Cond) ∈ GW := tw8 (List.mem_of_getElem? (i := 131) rfl) rfl
theorem wd1812 : ((Jvm.Cond.code ⟨"EchoGorgeModel","still","(II)I"⟩ prog_14_method_62_code 3 (Option.some Jvm.ClassFile.FieldType.int)) : Cond) ∈ GW := tw8 (List.mem_of_getElem? (i := 132) rfl) rfl
theorem wd1813 : ((Jvm.Cond.methodLink "EchoGorgeModel" 417 ⟨"EchoGorgeModel","stillOf","(IIII)I"⟩) : Cond) ∈ GW := tw8 (List.mem_of_getElem? (i := 133) rfl) rfl
theorem wd1815 : ((Jvm.Cond.instanceMethod ⟨"EchoGorgeModel","stillOf","(IIII)I"⟩) : Cond) ∈ GW := tw8 (List.mem_of_getElem? (i := 135) rfl) rfl
theorem wd1816 : ((Jvm.Cond.code ⟨"EchoGorgeModel","stillOf","(IIII)I"⟩ prog_14_method_61_code 7 (Option.some Jvm.ClassFile.FieldType.int)) : Cond) ∈ GW := tw8 (List.mem_of_getElem? (i := 136) rfl) rfl
theorem wd1817 : ((Jvm.Cond.methodLink "EchoGorgeLaw" 140 ⟨"EchoGorgeModel","without","(II)I"⟩) : Cond) ∈ GW := tw8 (List.mem_of_getElem? (i := 137) rfl) rfl
theorem wd1818 : ((Jvm.Cond.instanceMethod ⟨"EchoGorgeModel","without","(II)I"⟩) : Cond) ∈ GW := tw8 (List.mem_of_getElem? (i := 138) rfl) rfl
theorem wd1819 : ((Jvm.Cond.selects "EchoGorgeModel" ⟨"EchoGorgeModel","without","(II)I"⟩ ⟨"EchoGorgeModel","without","(II)I"⟩) : Cond) ∈ GW := tw8 (List.mem_of_getElem? (i := 139) rfl) rfl
theorem wd1820 : ((Jvm.Cond.code ⟨"EchoGorgeModel","without","(II)I"⟩ prog_14_method_63_code 3 (Option.some Jvm.ClassFile.FieldType.int)) : Cond) ∈ GW := tw8 (List.mem_of_getElem? (i := 140) rfl) rfl
theorem wd1821 : ((Jvm.Cond.methodLink "EchoGorgeLaw" 143 ⟨"EchoGorgeModel","lasts","(I)I"⟩) : Cond) ∈ GW := tw8 (List.mem_of_getElem? (i := 141) rfl) rfl
theorem wd1822 : ((Jvm.Cond.instanceMethod ⟨"EchoGorgeModel","lasts","(I)I"⟩) : Cond) ∈ GW := tw8 (List.mem_of_getElem? (i := 142) rfl) rfl
theorem wd1823 : ((Jvm.Cond.selects "EchoGorgeModel" ⟨"EchoGorgeModel","lasts","(I)I"⟩ ⟨"EchoGorgeModel","lasts","(I)I"⟩) : Cond) ∈ GW := tw8 (List.mem_of_getElem? (i := 143) rfl) rfl
theorem wd1824 : ((Jvm.Cond.code ⟨"EchoGorgeModel","lasts","(I)I"⟩ prog_14_method_64_code 6 (Option.some Jvm.ClassFile.FieldType.int)) : Cond) ∈ GW := tw8 (List.mem_of_getElem? (i := 144) rfl) rfl
theorem wd1825 : ((Jvm.Cond.methodLink "EchoGorgeLaw" 146 ⟨"EchoGorgeModel","sing","(II)I"⟩) : Cond) ∈ GW := tw8 (List.mem_of_getElem? (i := 145) rfl) rfl
theorem wd1826 : ((Jvm.Cond.instanceMethod ⟨"EchoGorgeModel","sing","(II)I"⟩) : Cond) ∈ GW := tw8 (List.mem_of_getElem? (i := 146) rfl) rfl
theorem wd1827 : ((Jvm.Cond.selects "EchoGorgeModel" ⟨"EchoGorgeModel","sing","(II)I"⟩ ⟨"EchoGorgeModel","sing","(II)I"⟩) : Cond) ∈ GW := tw8 (List.mem_of_getElem? (i := 147) rfl) rfl
theorem wd1828 : ((Jvm.Cond.code ⟨"EchoGorgeModel","sing","(II)I"⟩ prog_14_method_65_code 3 (Option.some Jvm.ClassFile.FieldType.int)) : Cond) ∈ GW := tw8 (List.mem_of_getElem? (i := 148) rfl) rfl
theorem wd1829 : ((Jvm.Cond.methodLink "EchoGorgeLaw" 149 ⟨"EchoGorgeModel","round","(I)I"⟩) : Cond) ∈ GW := tw8 (List.mem_of_getElem? (i := 149) rfl) rfl
theorem wd1830 : ((Jvm.Cond.instanceMethod ⟨"EchoGorgeModel","round","(I)I"⟩) : Cond) ∈ GW := tw8 (List.mem_of_getElem? (i := 150) rfl) rfl
theorem wd1831 : ((Jvm.Cond.selects "EchoGorgeModel" ⟨"EchoGorgeModel","round","(I)I"⟩ ⟨"EchoGorgeModel","round","(I)I"⟩) : Cond) ∈ GW := tw8 (List.mem_of_getElem? (i := 151) rfl) rfl
theorem wd1832 : ((Jvm.Cond.code ⟨"EchoGorgeModel","round","(I)I"⟩ prog_14_method_67_code 3 (Option.some Jvm.ClassFile.FieldType.int)) : Cond) ∈ GW := tw8 (List.mem_of_getElem? (i := 152) rfl) rfl
theorem wd1833 : ((Jvm.Cond.methodLink "EchoGorgeModel" 421 ⟨"EchoGorgeModel","clashes","(I)I"⟩) : Cond) ∈ GW := tw8 (List.mem_of_getElem? (i := 153) rfl) rfl
theorem wd1835 : ((Jvm.Cond.instanceMethod ⟨"EchoGorgeModel","clashes","(I)I"⟩) : Cond) ∈ GW := tw8 (List.mem_of_getElem? (i := 155) rfl) rfl
theorem wd1836 : ((Jvm.Cond.code ⟨"EchoGorgeModel","clashes","(I)I"⟩ prog_14_method_66_code 7 (Option.some Jvm.ClassFile.FieldType.int)) : Cond) ∈ GW := tw8 (List.mem_of_getElem? (i := 156) rfl) rfl
theorem wd1837 : ((Jvm.Cond.methodLink "EchoGorgeLaw" 152 ⟨"EchoGorgeModel","tell","(I)I"⟩) : Cond) ∈ GW := tw8 (List.mem_of_getElem? (i := 157) rfl) rfl
theorem wd1838 : ((Jvm.Cond.instanceMethod ⟨"EchoGorgeModel","tell","(I)I"⟩) : Cond) ∈ GW := tw8 (List.mem_of_getElem? (i := 158) rfl) rfl
theorem wd1839 : ((Jvm.Cond.selects "EchoGorgeModel" ⟨"EchoGorgeModel","tell","(I)I"⟩ ⟨"EchoGorgeModel","tell","(I)I"⟩) : Cond) ∈ GW := tw8 (List.mem_of_getElem? (i := 159) rfl) rfl
theorem wd1840 : ((Jvm.Cond.code ⟨"EchoGorgeModel","tell","(I)I"⟩ prog_14_method_68_code 2 (Option.some Jvm.ClassFile.FieldType.int)) : Cond) ∈ GW := tw8 (List.mem_of_getElem? (i := 160) rfl) rfl
theorem wd1841 : ((Jvm.Cond.methodLink "EchoGorgeLaw" 156 ⟨"EchoGorgeModel","untell","()I"⟩) : Cond) ∈ GW := tw8 (List.mem_of_getElem? (i := 161) rfl) rfl
theorem wd1842 : ((Jvm.Cond.instanceMethod ⟨"EchoGorgeModel","untell","()I"⟩) : Cond) ∈ GW := tw8 (List.mem_of_getElem? (i := 162) rfl) rfl
theorem wd1843 : ((Jvm.Cond.selects "EchoGorgeModel" ⟨"EchoGorgeModel","untell","()I"⟩ ⟨"EchoGorgeModel","untell","()I"⟩) : Cond) ∈ GW := tw8 (List.mem_of_getElem? (i := 163) rfl) rfl
theorem wd1844 : ((Jvm.Cond.code ⟨"EchoGorgeModel","untell","()I"⟩ prog_14_method_69_code 2 (Option.some Jvm.ClassFile.FieldType.int)) : Cond) ∈ GW := tw8 (List.mem_of_getElem? (i := 164) rfl) rfl
theorem wd1845 : ((Jvm.Cond.methodLink "EchoGorgeLaw" 159 ⟨"EchoGorgeModel","rivals","(II)I"⟩) : Cond) ∈ GW := tw8 (List.mem_of_getElem? (i := 165) rfl) rfl
theorem wd1846 : ((Jvm.Cond.instanceMethod ⟨"EchoGorgeModel","rivals","(II)I"⟩) : Cond) ∈ GW := tw8 (List.mem_of_getElem? (i := 166) rfl) rfl
theorem wd1847 : ((Jvm.Cond.selects "EchoGorgeModel" ⟨"EchoGorgeModel","rivals","(II)I"⟩ ⟨"EchoGorgeModel","rivals","(II)I"⟩) : Cond) ∈ GW := tw8 (List.mem_of_getElem? (i := 167) rfl) rfl
theorem wd1848 : ((Jvm.Cond.code ⟨"EchoGorgeModel","rivals","(II)I"⟩ prog_14_method_76_code 9 (Option.some Jvm.ClassFile.FieldType.int)) : Cond) ∈ GW := tw8 (List.mem_of_getElem? (i := 168) rfl) rfl
theorem wd1849 : ((Jvm.Cond.methodLink "EchoGorgeModel" 441 ⟨"EchoGorgeModel","finds","(I)V"⟩) : Cond) ∈ GW := tw8 (List.mem_of_getElem? (i := 169) rfl) rfl
theorem wd1851 : ((Jvm.Cond.instanceMethod ⟨"EchoGorgeModel","finds","(I)V"⟩) : Cond) ∈ GW := tw8 (List.mem_of_getElem? (i := 171) rfl) rfl
theorem wd1852 : ((Jvm.Cond.code ⟨"EchoGorgeModel","finds","(I)V"⟩ prog_14_method_73_code 5 (Option.none : Option Jvm.ClassFile.FieldType)) : Cond) ∈ GW := tw8 (List.mem_of_getElem? (i := 172) rfl) rfl
theorem wd1853 : ((Jvm.Cond.constant "EchoGorgeModel" 430 (1048576 : Int32)) : Cond) ∈ GW := tw8 (List.mem_of_getElem? (i := 173) rfl) rfl
theorem wd1854 : ((Jvm.Cond.methodLink "EchoGorgeModel" 431 ⟨"EchoGorgeModel","saysBy","(IIII)V"⟩) : Cond) ∈ GW := tw8 (List.mem_of_getElem? (i := 174) rfl) rfl
theorem wd1856 : ((Jvm.Cond.instanceMethod ⟨"EchoGorgeModel","saysBy","(IIII)V"⟩) : Cond) ∈ GW := tw8 (List.mem_of_getElem? (i := 176) rfl) rfl
theorem wd1857 : ((Jvm.Cond.code ⟨"EchoGorgeModel","saysBy","(IIII)V"⟩ prog_14_method_72_code 6 (Option.none : Option Jvm.ClassFile.FieldType)) : Cond) ∈ GW := tw8 (List.mem_of_getElem? (i := 177) rfl) rfl
theorem wd1858 : ((Jvm.Cond.methodLink "EchoGorgeModel" 435 ⟨"EchoGorgeModel","isTold","()Z"⟩) : Cond) ∈ GW := tw8 (List.mem_of_getElem? (i := 178) rfl) rfl
theorem wd1860 : ((Jvm.Cond.instanceMethod ⟨"EchoGorgeModel","isTold","()Z"⟩) : Cond) ∈ GW := tw8 (List.mem_of_getElem? (i := 180) rfl) rfl
theorem wd1861 : ((Jvm.Cond.code ⟨"EchoGorgeModel","isTold","()Z"⟩ prog_14_method_71_code 2 (Option.some Jvm.ClassFile.FieldType.boolean)) : Cond) ∈ GW := tw8 (List.mem_of_getElem? (i := 181) rfl) rfl
theorem wd1862 : ((Jvm.Cond.methodLink "EchoGorgeModel" 424 ⟨"EchoGorgeModel","toldAt","(I)I"⟩) : Cond) ∈ GW := tw8 (List.mem_of_getElem? (i := 182) rfl) rfl
theorem wd1864 : ((Jvm.Cond.instanceMethod ⟨"EchoGorgeModel","toldAt","(I)I"⟩) : Cond) ∈ GW := tw8 (List.mem_of_getElem? (i := 184) rfl) rfl
theorem wd1865 : ((Jvm.Cond.code ⟨"EchoGorgeModel","toldAt","(I)I"⟩ prog_14_method_70_code 2 (Option.some Jvm.ClassFile.FieldType.int)) : Cond) ∈ GW := tw8 (List.mem_of_getElem? (i := 185) rfl) rfl
theorem wd1866 : ((Jvm.Cond.methodLink "EchoGorgeModel" 438 ⟨"EchoGorgeModel","next0","(II)I"⟩) : Cond) ∈ GW := tw8 (List.mem_of_getElem? (i := 186) rfl) rfl
theorem wd1867 : ((Jvm.Cond.static ⟨"EchoGorgeModel","next0","(II)I"⟩) : Cond) ∈ GW := tw8 (List.mem_of_getElem? (i := 187) rfl) rfl
theorem wd1868 : ((Jvm.Cond.code ⟨"EchoGorgeModel","next0","(II)I"⟩ prog_14_method_74_code 6 (Option.some Jvm.ClassFile.FieldType.int)) : Cond) ∈ GW := tw8 (List.mem_of_getElem? (i := 188) rfl) rfl
theorem wd1869 : ((Jvm.Cond.constant "EchoGorgeModel" 444 (1048575 : Int32)) : Cond) ∈ GW := tw8 (List.mem_of_getElem? (i := 189) rfl) rfl
theorem wd1870 : ((Jvm.Cond.methodLink "EchoGorgeModel" 445 ⟨"EchoGorgeModel","group","(II)I"⟩) : Cond) ∈ GW := tw8 (List.mem_of_getElem? (i := 190) rfl) rfl
theorem wd1872 : ((Jvm.Cond.instanceMethod ⟨"EchoGorgeModel","group","(II)I"⟩) : Cond) ∈ GW := tw8 (List.mem_of_getElem? (i := 192) rfl) rfl
theorem wd1873 : ((Jvm.Cond.code ⟨"EchoGorgeModel","group","(II)I"⟩ prog_14_method_75_code 7 (Option.some Jvm.ClassFile.FieldType.int)) : Cond) ∈ GW := tw8 (List.mem_of_getElem? (i := 193) rfl) rfl
theorem wd1874 : ((Jvm.Cond.methodLink "EchoGorgeLaw" 162 ⟨"EchoGorgeModel","sayers","(I)I"⟩) : Cond) ∈ GW := tw8 (List.mem_of_getElem? (i := 194) rfl) rfl
theorem wd1875 : ((Jvm.Cond.instanceMethod ⟨"EchoGorgeModel","sayers","(I)I"⟩) : Cond) ∈ GW := tw8 (List.mem_of_getElem? (i := 195) rfl) rfl
theorem wd1876 : ((Jvm.Cond.selects "EchoGorgeModel" ⟨"EchoGorgeModel","sayers","(I)I"⟩ ⟨"EchoGorgeModel","sayers","(I)I"⟩) : Cond) ∈ GW := tw8 (List.mem_of_getElem? (i := 196) rfl) rfl
theorem wd1877 : ((Jvm.Cond.code ⟨"EchoGorgeModel","sayers","(I)I"⟩ prog_14_method_77_code 8 (Option.some Jvm.ClassFile.FieldType.int)) : Cond) ∈ GW := tw8 (List.mem_of_getElem? (i := 197) rfl) rfl
theorem wd1878 : ((Jvm.Cond.methodLink "EchoGorgeLaw" 165 ⟨"EchoGorgeModel","stand","(III)Z"⟩) : Cond) ∈ GW := tw8 (List.mem_of_getElem? (i := 198) rfl) rfl
theorem wd1879 : ((Jvm.Cond.instanceMethod ⟨"EchoGorgeModel","stand","(III)Z"⟩) : Cond) ∈ GW := tw8 (List.mem_of_getElem? (i := 199) rfl) rfl
theorem wd1880 : ((Jvm.Cond.selects "EchoGorgeModel" ⟨"EchoGorgeModel","stand","(III)Z"⟩ ⟨"EchoGorgeModel","stand","(III)Z"⟩) : Cond) ∈ GW := tw8 (List.mem_of_getElem? (i := 200) rfl) rfl
theorem wd1881 : ((Jvm.Cond.code ⟨"EchoGorgeModel","stand","(III)Z"⟩ prog_14_method_78_code 4 (Option.some Jvm.ClassFile.FieldType.boolean)) : Cond) ∈ GW := tw8 (List.mem_of_getElem? (i := 201) rfl) rfl
theorem wd1882 : ((Jvm.Cond.methodLink "EchoGorgeLaw" 168 ⟨"EchoGorgeModel","matching","(III)I"⟩) : Cond) ∈ GW := tw8 (List.mem_of_getElem? (i := 202) rfl) rfl
theorem wd1883 : ((Jvm.Cond.instanceMethod ⟨"EchoGorgeModel","matching","(III)I"⟩) : Cond) ∈ GW := tw8 (List.mem_of_getElem? (i := 203) rfl) rfl
theorem wd1884 : ((Jvm.Cond.selects "EchoGorgeModel" ⟨"EchoGorgeModel","matching","(III)I"⟩ ⟨"EchoGorgeModel","matching","(III)I"⟩) : Cond) ∈ GW := tw8 (List.mem_of_getElem? (i := 204) rfl) rfl
theorem wd1885 : ((Jvm.Cond.code ⟨"EchoGorgeModel","matching","(III)I"⟩ prog_14_method_81_code 6 (Option.some Jvm.ClassFile.FieldType.int)) : Cond) ∈ GW := tw8 (List.mem_of_getElem? (i := 205) rfl) rfl
theorem wd1886 : ((Jvm.Cond.methodLink "EchoGorgeModel" 451 ⟨"EchoGorgeModel","matches","(III)Z"⟩) : Cond) ∈ GW := tw8 (List.mem_of_getElem? (i := 206) rfl) rfl
theorem wd1888 : ((Jvm.Cond.instanceMethod ⟨"EchoGorgeModel","matches","(III)Z"⟩) : Cond) ∈ GW := tw8 (List.mem_of_getElem? (i := 208) rfl) rfl
theorem wd1889 : ((Jvm.Cond.code ⟨"EchoGorgeModel","matches","(III)Z"⟩ prog_14_method_80_code 5 (Option.some Jvm.ClassFile.FieldType.boolean)) : Cond) ∈ GW := tw8 (List.mem_of_getElem? (i := 209) rfl) rfl
theorem wd1890 : ((Jvm.Cond.methodLink "EchoGorgeModel" 448 ⟨"EchoGorgeModel","ticksTo","(II)I"⟩) : Cond) ∈ GW := tw8 (List.mem_of_getElem? (i := 210) rfl) rfl
theorem wd1892 : ((Jvm.Cond.instanceMethod ⟨"EchoGorgeModel","ticksTo","(II)I"⟩) : Cond) ∈ GW := tw8 (List.mem_of_getElem? (i := 212) rfl) rfl
theorem wd1893 : ((Jvm.Cond.code ⟨"EchoGorgeModel","ticksTo","(II)I"⟩ prog_14_method_79_code 9 (Option.some Jvm.ClassFile.FieldType.int)) : Cond) ∈ GW := tw8 (List.mem_of_getElem? (i := 213) rfl) rfl
theorem wd1894 : ((Jvm.Cond.methodLink "EchoGorgeLaw" 172 ⟨"EchoGorgeModel","moved","(IIIII)I"⟩) : Cond) ∈ GW := tw8 (List.mem_of_getElem? (i := 214) rfl) rfl
theorem wd1895 : ((Jvm.Cond.instanceMethod ⟨"EchoGorgeModel","moved","(IIIII)I"⟩) : Cond) ∈ GW := tw8 (List.mem_of_getElem? (i := 215) rfl) rfl
theorem wd1896 : ((Jvm.Cond.selects "EchoGorgeModel" ⟨"EchoGorgeModel","moved","(IIIII)I"⟩ ⟨"EchoGorgeModel","moved","(IIIII)I"⟩) : Cond) ∈ GW := tw8 (List.mem_of_getElem? (i := 216) rfl) rfl
theorem wd1897 : ((Jvm.Cond.code ⟨"EchoGorgeModel","moved","(IIIII)I"⟩ prog_14_method_82_code 11 (Option.some Jvm.ClassFile.FieldType.int)) : Cond) ∈ GW := tw8 (List.mem_of_getElem? (i := 217) rfl) rfl
theorem wd1898 : ((Jvm.Cond.methodLink "EchoGorgeLaw" 175 ⟨"EchoGorgeModel","code","(II)I"⟩) : Cond) ∈ GW := tw8 (List.mem_of_getElem? (i := 218) rfl) rfl
theorem wd1899 : ((Jvm.Cond.instanceMethod ⟨"EchoGorgeModel","code","(II)I"⟩) : Cond) ∈ GW := tw8 (List.mem_of_getElem? (i := 219) rfl) rfl
theorem wd1900 : ((Jvm.Cond.selects "EchoGorgeModel" ⟨"EchoGorgeModel","code","(II)I"⟩ ⟨"EchoGorgeModel","code","(II)I"⟩) : Cond) ∈ GW := tw8 (List.mem_of_getElem? (i := 220) rfl) rfl
theorem wd1901 : ((Jvm.Cond.code ⟨"EchoGorgeModel","code","(II)I"⟩ prog_14_method_84_code 11 (Option.some Jvm.ClassFile.FieldType.int)) : Cond) ∈ GW := tw8 (List.mem_of_getElem? (i := 221) rfl) rfl
theorem wd1902 : ((Jvm.Cond.methodLink "EchoGorgeModel" 454 ⟨"EchoGorgeModel","falls","(I)V"⟩) : Cond) ∈ GW := tw8 (List.mem_of_getElem? (i := 222) rfl) rfl
theorem wd1904 : ((Jvm.Cond.instanceMethod ⟨"EchoGorgeModel","falls","(I)V"⟩) : Cond) ∈ GW := tw8 (List.mem_of_getElem? (i := 224) rfl) rfl
theorem wd1905 : ((Jvm.Cond.code ⟨"EchoGorgeModel","falls","(I)V"⟩ prog_14_method_83_code 4 (Option.none : Option Jvm.ClassFile.FieldType)) : Cond) ∈ GW := tw8 (List.mem_of_getElem? (i := 225) rfl) rfl
theorem wd1906 : ((Jvm.Cond.constant "EchoGorgeModel" 457 (65536 : Int32)) : Cond) ∈ GW := tw8 (List.mem_of_getElem? (i := 226) rfl) rfl
theorem wd1907 : ((Jvm.Cond.methodLink "EchoGorgeLaw" 179 ⟨"EchoGorgeModel","image","()V"⟩) : Cond) ∈ GW := tw8 (List.mem_of_getElem? (i := 227) rfl) rfl
theorem wd1908 : ((Jvm.Cond.instanceMethod ⟨"EchoGorgeModel","image","()V"⟩) : Cond) ∈ GW := tw8 (List.mem_of_getElem? (i := 228) rfl) rfl
theorem wd1909 : ((Jvm.Cond.selects "EchoGorgeModel" ⟨"EchoGorgeModel","image","()V"⟩ ⟨"EchoGorgeModel","image","()V"⟩) : Cond) ∈ GW := tw8 (List.mem_of_getElem? (i := 229) rfl) rfl
theorem wd1910 : ((Jvm.Cond.code ⟨"EchoGorgeModel","image","()V"⟩ prog_14_method_85_code 1 (Option.none : Option Jvm.ClassFile.FieldType)) : Cond) ∈ GW := tw8 (List.mem_of_getElem? (i := 230) rfl) rfl
theorem wd1911 : ((Jvm.Cond.methodLink "EchoGorgeLaw" 184 ⟨"EchoGorgeModel","restore","()Z"⟩) : Cond) ∈ GW := tw8 (List.mem_of_getElem? (i := 231) rfl) rfl
theorem wd1912 : ((Jvm.Cond.instanceMethod ⟨"EchoGorgeModel","restore","()Z"⟩) : Cond) ∈ GW := tw8 (List.mem_of_getElem? (i := 232) rfl) rfl
theorem wd1913 : ((Jvm.Cond.selects "EchoGorgeModel" ⟨"EchoGorgeModel","restore","()Z"⟩ ⟨"EchoGorgeModel","restore","()Z"⟩) : Cond) ∈ GW := tw8 (List.mem_of_getElem? (i := 233) rfl) rfl
theorem wd1914 : ((Jvm.Cond.code ⟨"EchoGorgeModel","restore","()Z"⟩ prog_14_method_86_code 1 (Option.some Jvm.ClassFile.FieldType.boolean)) : Cond) ∈ GW := tw8 (List.mem_of_getElem? (i := 234) rfl) rfl
theorem v39 : ((Jvm.Cond.selects "EchoGorge$Chant" ⟨"EchoGorge$Chant","listen","(LEchoGorge$Gorge;LEchoGorge$Returns;LEchoGorge$Scene;II)I"⟩ ⟨"EchoGorge$Chant","listen","(LEchoGorge$Gorge;LEchoGorge$Returns;LEchoGorge$Scene;II)I"⟩) : Cond) ∈ GW := gws (i := 39) (by decide +kernel) (by decide +kernel)
theorem v51 : ((Jvm.Cond.selects "EchoGorge$Claps" ⟨"EchoGorge$Claps","heardGaps","(LEchoGorge$Hearing;)I"⟩ ⟨"EchoGorge$Claps","heardGaps","(LEchoGorge$Hearing;)I"⟩) : Cond) ∈ GW := gws (i := 51) (by decide +kernel) (by decide +kernel)
theorem v52 : ((Jvm.Cond.selects "EchoGorge$Claps" ⟨"EchoGorge$Claps","extend","(II)V"⟩ ⟨"EchoGorge$Claps","extend","(II)V"⟩) : Cond) ∈ GW := gws (i := 52) (by decide +kernel) (by decide +kernel)
theorem v53 : ((Jvm.Cond.selects "EchoGorge$Claps" ⟨"EchoGorge$Claps","weigh","(I)V"⟩ ⟨"EchoGorge$Claps","weigh","(I)V"⟩) : Cond) ∈ GW := gws (i := 53) (by decide +kernel) (by decide +kernel)
theorem v44 : ((Jvm.Cond.selects "EchoGorge$Guess" ⟨"EchoGorge$Guess","greatestGroup","(LEchoGorge$Gorge;I)I"⟩ ⟨"EchoGorge$Guess","greatestGroup","(LEchoGorge$Gorge;I)I"⟩) : Cond) ∈ GW := gws (i := 44) (by decide +kernel) (by decide +kernel)
theorem v40 : ((Jvm.Cond.selects "EchoGorge$Guess" ⟨"EchoGorge$Guess","searchAll","(LEchoGorge$Gorge;LEchoGorge$Scene;LEchoGorge$Hearing;)V"⟩ ⟨"EchoGorge$Guess","searchAll","(LEchoGorge$Gorge;LEchoGorge$Scene;LEchoGorge$Hearing;)V"⟩) : Cond) ∈ GW := gws (i := 40) (by decide +kernel) (by decide +kernel)
theorem v43 : ((Jvm.Cond.selects "EchoGorge$Guess" ⟨"EchoGorge$Guess","findNext","(LEchoGorge$Gorge;)V"⟩ ⟨"EchoGorge$Guess","findNext","(LEchoGorge$Gorge;)V"⟩) : Cond) ∈ GW := gws (i := 43) (by decide +kernel) (by decide +kernel)
theorem v41 : ((Jvm.Cond.selects "EchoGorge$Guess" ⟨"EchoGorge$Guess","firstMiss","(LEchoGorge$Gorge;LEchoGorge$Scene;LEchoGorge$Hearing;)I"⟩ ⟨"EchoGorge$Guess","firstMiss","(LEchoGorge$Gorge;LEchoGorge$Scene;LEchoGorge$Hearing;)I"⟩) : Cond) ∈ GW := gws (i := 41) (by decide +kernel) (by decide +kernel)
theorem v42 : ((Jvm.Cond.selects "EchoGorge$Guess" ⟨"EchoGorge$Guess","take","(II)V"⟩ ⟨"EchoGorge$Guess","take","(II)V"⟩) : Cond) ∈ GW := gws (i := 42) (by decide +kernel) (by decide +kernel)
theorem v49 : ((Jvm.Cond.selects "EchoGorge$Places" ⟨"EchoGorge$Places","ticksTo","(LEchoGorge$Scene;III)I"⟩ ⟨"EchoGorge$Places","ticksTo","(LEchoGorge$Scene;III)I"⟩) : Cond) ∈ GW := gws (i := 49) (by decide +kernel) (by decide +kernel)
theorem v48 : ((Jvm.Cond.selects "EchoGorge$Places" ⟨"EchoGorge$Places","matches","(LEchoGorge$Scene;IIII)Z"⟩ ⟨"EchoGorge$Places","matches","(LEchoGorge$Scene;IIII)Z"⟩) : Cond) ∈ GW := gws (i := 48) (by decide +kernel) (by decide +kernel)
theorem v50 : ((Jvm.Cond.selects "EchoGorge$Places" ⟨"EchoGorge$Places","chartedNear","(III)I"⟩ ⟨"EchoGorge$Places","chartedNear","(III)I"⟩) : Cond) ∈ GW := gws (i := 50) (by decide +kernel) (by decide +kernel)
theorem v5 : ((Jvm.Cond.selects "EchoGorge$Reader" ⟨"EchoGorge$Reader","readSound","()Z"⟩ ⟨"EchoGorge$Reader","readSound","()Z"⟩) : Cond) ∈ GW := gws (i := 5) (by decide +kernel) (by decide +kernel)
theorem v9 : ((Jvm.Cond.selects "EchoGorge$Reader" ⟨"EchoGorge$Reader","readWall","()Z"⟩ ⟨"EchoGorge$Reader","readWall","()Z"⟩) : Cond) ∈ GW := gws (i := 9) (by decide +kernel) (by decide +kernel)
theorem v12 : ((Jvm.Cond.selects "EchoGorge$Reader" ⟨"EchoGorge$Reader","readStraight","()Z"⟩ ⟨"EchoGorge$Reader","readStraight","()Z"⟩) : Cond) ∈ GW := gws (i := 12) (by decide +kernel) (by decide +kernel)
theorem v13 : ((Jvm.Cond.selects "EchoGorge$Reader" ⟨"EchoGorge$Reader","readAir","()Z"⟩ ⟨"EchoGorge$Reader","readAir","()Z"⟩) : Cond) ∈ GW := gws (i := 13) (by decide +kernel) (by decide +kernel)
theorem v14 : ((Jvm.Cond.selects "EchoGorge$Reader" ⟨"EchoGorge$Reader","readMask","()Z"⟩ ⟨"EchoGorge$Reader","readMask","()Z"⟩) : Cond) ∈ GW := gws (i := 14) (by decide +kernel) (by decide +kernel)
theorem v15 : ((Jvm.Cond.selects "EchoGorge$Reader" ⟨"EchoGorge$Reader","readSweet","()Z"⟩ ⟨"EchoGorge$Reader","readSweet","()Z"⟩) : Cond) ∈ GW := gws (i := 15) (by decide +kernel) (by decide +kernel)
theorem v17 : ((Jvm.Cond.selects "EchoGorge$Reader" ⟨"EchoGorge$Reader","readWord","()Z"⟩ ⟨"EchoGorge$Reader","readWord","()Z"⟩) : Cond) ∈ GW := gws (i := 17) (by decide +kernel) (by decide +kernel)
theorem v18 : ((Jvm.Cond.selects "EchoGorge$Reader" ⟨"EchoGorge$Reader","readForm","()Z"⟩ ⟨"EchoGorge$Reader","readForm","()Z"⟩) : Cond) ∈ GW := gws (i := 18) (by decide +kernel) (by decide +kernel)
theorem v8 : ((Jvm.Cond.selects "EchoGorge$Reader" ⟨"EchoGorge$Reader","readEnd","()Z"⟩ ⟨"EchoGorge$Reader","readEnd","()Z"⟩) : Cond) ∈ GW := gws (i := 8) (by decide +kernel) (by decide +kernel)
theorem v10 : ((Jvm.Cond.selects "EchoGorge$Reader" ⟨"EchoGorge$Reader","readSwallows","(I)Z"⟩ ⟨"EchoGorge$Reader","readSwallows","(I)Z"⟩) : Cond) ∈ GW := gws (i := 10) (by decide +kernel) (by decide +kernel)
theorem v11 : ((Jvm.Cond.selects "EchoGorge$Reader" ⟨"EchoGorge$Reader","readAgain","(I)Z"⟩ ⟨"EchoGorge$Reader","readAgain","(I)Z"⟩) : Cond) ∈ GW := gws (i := 11) (by decide +kernel) (by decide +kernel)
theorem v16 : ((Jvm.Cond.selects "EchoGorge$Reader" ⟨"EchoGorge$Reader","isToldSound","()Z"⟩ ⟨"EchoGorge$Reader","isToldSound","()Z"⟩) : Cond) ∈ GW := gws (i := 16) (by decide +kernel) (by decide +kernel)
theorem v2 : ((Jvm.Cond.selects "EchoGorge$Reader" ⟨"EchoGorge$Reader","step","()V"⟩ ⟨"EchoGorge$Reader","step","()V"⟩) : Cond) ∈ GW := gws (i := 2) (by decide +kernel) (by decide +kernel)
theorem v3 : ((Jvm.Cond.selects "EchoGorge$Reader" ⟨"EchoGorge$Reader","readLine","()Z"⟩ ⟨"EchoGorge$Reader","readLine","()Z"⟩) : Cond) ∈ GW := gws (i := 3) (by decide +kernel) (by decide +kernel)
theorem v6 : ((Jvm.Cond.selects "EchoGorge$Reader" ⟨"EchoGorge$Reader","fail","(I)Z"⟩ ⟨"EchoGorge$Reader","fail","(I)Z"⟩) : Cond) ∈ GW := gws (i := 6) (by decide +kernel) (by decide +kernel)
theorem v7 : ((Jvm.Cond.selects "EchoGorge$Reader" ⟨"EchoGorge$Reader","isNumber","(II)Z"⟩ ⟨"EchoGorge$Reader","isNumber","(II)Z"⟩) : Cond) ∈ GW := gws (i := 7) (by decide +kernel) (by decide +kernel)
theorem v4 : ((Jvm.Cond.selects "EchoGorge$Reader" ⟨"EchoGorge$Reader","spells","(Ljava/lang/String;)Z"⟩ ⟨"EchoGorge$Reader","spells","(Ljava/lang/String;)Z"⟩) : Cond) ∈ GW := gws (i := 4) (by decide +kernel) (by decide +kernel)
theorem v25 : ((Jvm.Cond.selects "EchoGorge$Returns" ⟨"EchoGorge$Returns","place","(I)I"⟩ ⟨"EchoGorge$Returns","place","(I)I"⟩) : Cond) ∈ GW := gws (i := 25) (by decide +kernel) (by decide +kernel)
theorem v26 : ((Jvm.Cond.selects "EchoGorge$Returns" ⟨"EchoGorge$Returns","addWall","(LEchoGorge$Gorge;I)V"⟩ ⟨"EchoGorge$Returns","addWall","(LEchoGorge$Gorge;I)V"⟩) : Cond) ∈ GW := gws (i := 26) (by decide +kernel) (by decide +kernel)
theorem v45 : ((Jvm.Cond.selects "EchoGorge$Truth" ⟨"EchoGorge$Truth","isHeardAsTold","(III)Z"⟩ ⟨"EchoGorge$Truth","isHeardAsTold","(III)Z"⟩) : Cond) ∈ GW := gws (i := 45) (by decide +kernel) (by decide +kernel)
theorem v46 : ((Jvm.Cond.selects "EchoGorge$Truth" ⟨"EchoGorge$Truth","search","(III)V"⟩ ⟨"EchoGorge$Truth","search","(III)V"⟩) : Cond) ∈ GW := gws (i := 46) (by decide +kernel) (by decide +kernel)
theorem v47 : ((Jvm.Cond.selects "EchoGorge$Truth" ⟨"EchoGorge$Truth","take","(I)V"⟩ ⟨"EchoGorge$Truth","take","(I)V"⟩) : Cond) ∈ GW := gws (i := 47) (by decide +kernel) (by decide +kernel)
theorem v34 : ((Jvm.Cond.selects "EchoGorge$Verses" ⟨"EchoGorge$Verses","fittingPlaces","(I)I"⟩ ⟨"EchoGorge$Verses","fittingPlaces","(I)I"⟩) : Cond) ∈ GW := gws (i := 34) (by decide +kernel) (by decide +kernel)
theorem v35 : ((Jvm.Cond.selects "EchoGorge$Verses" ⟨"EchoGorge$Verses","layKind","(II)I"⟩ ⟨"EchoGorge$Verses","layKind","(II)I"⟩) : Cond) ∈ GW := gws (i := 35) (by decide +kernel) (by decide +kernel)
theorem v32 : ((Jvm.Cond.selects "EchoGorge$Verses" ⟨"EchoGorge$Verses","fitsAt","(II)Z"⟩ ⟨"EchoGorge$Verses","fitsAt","(II)Z"⟩) : Cond) ∈ GW := gws (i := 32) (by decide +kernel) (by decide +kernel)
theorem v27 : ((Jvm.Cond.selects "EchoGorge$Verses" ⟨"EchoGorge$Verses","surveyForm","(IIILEchoGorge$Hearing;LEchoGorge$Returns;)V"⟩ ⟨"EchoGorge$Verses","surveyForm","(IIILEchoGorge$Hearing;LEchoGorge$Returns;)V"⟩) : Cond) ∈ GW := gws (i := 27) (by decide +kernel) (by decide +kernel)
theorem v28 : ((Jvm.Cond.selects "EchoGorge$Verses" ⟨"EchoGorge$Verses","spell","(II)V"⟩ ⟨"EchoGorge$Verses","spell","(II)V"⟩) : Cond) ∈ GW := gws (i := 28) (by decide +kernel) (by decide +kernel)
theorem v29 : ((Jvm.Cond.selects "EchoGorge$Verses" ⟨"EchoGorge$Verses","listen","(LEchoGorge$Hearing;LEchoGorge$Returns;)Z"⟩ ⟨"EchoGorge$Verses","listen","(LEchoGorge$Hearing;LEchoGorge$Returns;)Z"⟩) : Cond) ∈ GW := gws (i := 29) (by decide +kernel) (by decide +kernel)
theorem v30 : ((Jvm.Cond.selects "EchoGorge$Verses" ⟨"EchoGorge$Verses","weigh","(III)I"⟩ ⟨"EchoGorge$Verses","weigh","(III)I"⟩) : Cond) ∈ GW := gws (i := 30) (by decide +kernel) (by decide +kernel)
theorem v31 : ((Jvm.Cond.selects "EchoGorge$Verses" ⟨"EchoGorge$Verses","isEchoed","(I)Z"⟩ ⟨"EchoGorge$Verses","isEchoed","(I)Z"⟩) : Cond) ∈ GW := gws (i := 31) (by decide +kernel) (by decide +kernel)
theorem v33 : ((Jvm.Cond.selects "EchoGorge$Verses" ⟨"EchoGorge$Verses","isLine","()Z"⟩ ⟨"EchoGorge$Verses","isLine","()Z"⟩) : Cond) ∈ GW := gws (i := 33) (by decide +kernel) (by decide +kernel)
theorem v36 : ((Jvm.Cond.selects "EchoGorge$Verses" ⟨"EchoGorge$Verses","answersNow","(II)Z"⟩ ⟨"EchoGorge$Verses","answersNow","(II)Z"⟩) : Cond) ∈ GW := gws (i := 36) (by decide +kernel) (by decide +kernel)
theorem v37 : ((Jvm.Cond.selects "EchoGorge$Verses" ⟨"EchoGorge$Verses","searchFog","(ILEchoGorge$Hearing;LEchoGorge$Returns;)I"⟩ ⟨"EchoGorge$Verses","searchFog","(ILEchoGorge$Hearing;LEchoGorge$Returns;)I"⟩) : Cond) ∈ GW := gws (i := 37) (by decide +kernel) (by decide +kernel)
theorem v38 : ((Jvm.Cond.selects "EchoGorge$Verses" ⟨"EchoGorge$Verses","changesShares","(I)Z"⟩ ⟨"EchoGorge$Verses","changesShares","(I)Z"⟩) : Cond) ∈ GW := gws (i := 38) (by decide +kernel) (by decide +kernel)
theorem v19 : ((Jvm.Cond.selects "EchoGorge$Verses" ⟨"EchoGorge$Verses","measureForm","(I)V"⟩ ⟨"EchoGorge$Verses","measureForm","(I)V"⟩) : Cond) ∈ GW := gws (i := 19) (by decide +kernel) (by decide +kernel)
theorem v0 : ((Jvm.Cond.selects "EchoGorge" ⟨"EchoGorge","tapeNumber","(I)V"⟩ ⟨"EchoGorge","tapeNumber","(I)V"⟩) : Cond) ∈ GW := gws (i := 0) (by decide +kernel) (by decide +kernel)
theorem v20 : ((Jvm.Cond.selects "EchoGorge" ⟨"EchoGorge","needWall","(I)V"⟩ ⟨"EchoGorge","needWall","(I)V"⟩) : Cond) ∈ GW := gws (i := 20) (by decide +kernel) (by decide +kernel)
theorem v21 : ((Jvm.Cond.selects "EchoGorge" ⟨"EchoGorge","needSound","(I)V"⟩ ⟨"EchoGorge","needSound","(I)V"⟩) : Cond) ∈ GW := gws (i := 21) (by decide +kernel) (by decide +kernel)
theorem v22 : ((Jvm.Cond.selects "EchoGorge" ⟨"EchoGorge","needMoment","(III)V"⟩ ⟨"EchoGorge","needMoment","(III)V"⟩) : Cond) ∈ GW := gws (i := 22) (by decide +kernel) (by decide +kernel)
theorem v24 : ((Jvm.Cond.selects "EchoGorge" ⟨"EchoGorge","needHour","(I)V"⟩ ⟨"EchoGorge","needHour","(I)V"⟩) : Cond) ∈ GW := gws (i := 24) (by decide +kernel) (by decide +kernel)
theorem v23 : ((Jvm.Cond.selects "EchoGorge" ⟨"EchoGorge","needEar","(I)V"⟩ ⟨"EchoGorge","needEar","(I)V"⟩) : Cond) ∈ GW := gws (i := 23) (by decide +kernel) (by decide +kernel)
theorem v54 : ((Jvm.Cond.selects "EchoGorgeModel" ⟨"EchoGorgeModel","lays","(I)V"⟩ ⟨"EchoGorgeModel","lays","(I)V"⟩) : Cond) ∈ GW := gws (i := 54) (by decide +kernel) (by decide +kernel)
theorem v57 : ((Jvm.Cond.selects "EchoGorgeModel" ⟨"EchoGorgeModel","byteAt","(I)I"⟩ ⟨"EchoGorgeModel","byteAt","(I)I"⟩) : Cond) ∈ GW := gws (i := 57) (by decide +kernel) (by decide +kernel)
theorem v58 : ((Jvm.Cond.selects "EchoGorgeModel" ⟨"EchoGorgeModel","isGood","()Z"⟩ ⟨"EchoGorgeModel","isGood","()Z"⟩) : Cond) ∈ GW := gws (i := 58) (by decide +kernel) (by decide +kernel)
theorem v56 : ((Jvm.Cond.selects "EchoGorgeModel" ⟨"EchoGorgeModel","steps","()V"⟩ ⟨"EchoGorgeModel","steps","()V"⟩) : Cond) ∈ GW := gws (i := 56) (by decide +kernel) (by decide +kernel)
theorem v61 : ((Jvm.Cond.selects "EchoGorgeModel" ⟨"EchoGorgeModel","wrong","(I)V"⟩ ⟨"EchoGorgeModel","wrong","(I)V"⟩) : Cond) ∈ GW := gws (i := 61) (by decide +kernel) (by decide +kernel)
theorem v62 : ((Jvm.Cond.selects "EchoGorgeModel" ⟨"EchoGorgeModel","number","(II)I"⟩ ⟨"EchoGorgeModel","number","(II)I"⟩) : Cond) ∈ GW := gws (i := 62) (by decide +kernel) (by decide +kernel)
theorem v60 : ((Jvm.Cond.selects "EchoGorgeModel" ⟨"EchoGorgeModel","is","(I)Z"⟩ ⟨"EchoGorgeModel","is","(I)Z"⟩) : Cond) ∈ GW := gws (i := 60) (by decide +kernel) (by decide +kernel)
theorem v66 : ((Jvm.Cond.selects "EchoGorgeModel" ⟨"EchoGorgeModel","soundHere","()Z"⟩ ⟨"EchoGorgeModel","soundHere","()Z"⟩) : Cond) ∈ GW := gws (i := 66) (by decide +kernel) (by decide +kernel)
theorem v63 : ((Jvm.Cond.selects "EchoGorgeModel" ⟨"EchoGorgeModel","readsWall","()V"⟩ ⟨"EchoGorgeModel","readsWall","()V"⟩) : Cond) ∈ GW := gws (i := 63) (by decide +kernel) (by decide +kernel)
theorem v64 : ((Jvm.Cond.selects "EchoGorgeModel" ⟨"EchoGorgeModel","readsAir","()V"⟩ ⟨"EchoGorgeModel","readsAir","()V"⟩) : Cond) ∈ GW := gws (i := 64) (by decide +kernel) (by decide +kernel)
theorem v65 : ((Jvm.Cond.selects "EchoGorgeModel" ⟨"EchoGorgeModel","readsSweet","()V"⟩ ⟨"EchoGorgeModel","readsSweet","()V"⟩) : Cond) ∈ GW := gws (i := 65) (by decide +kernel) (by decide +kernel)
theorem v67 : ((Jvm.Cond.selects "EchoGorgeModel" ⟨"EchoGorgeModel","readsWord","()V"⟩ ⟨"EchoGorgeModel","readsWord","()V"⟩) : Cond) ∈ GW := gws (i := 67) (by decide +kernel) (by decide +kernel)
theorem v68 : ((Jvm.Cond.selects "EchoGorgeModel" ⟨"EchoGorgeModel","readsForm","()V"⟩ ⟨"EchoGorgeModel","readsForm","()V"⟩) : Cond) ∈ GW := gws (i := 68) (by decide +kernel) (by decide +kernel)
theorem v69 : ((Jvm.Cond.selects "EchoGorgeModel" ⟨"EchoGorgeModel","need","(Z)V"⟩ ⟨"EchoGorgeModel","need","(Z)V"⟩) : Cond) ∈ GW := gws (i := 69) (by decide +kernel) (by decide +kernel)
theorem v55 : ((Jvm.Cond.selects "EchoGorgeModel" ⟨"EchoGorgeModel","right","(ZI)Z"⟩ ⟨"EchoGorgeModel","right","(ZI)Z"⟩) : Cond) ∈ GW := gws (i := 55) (by decide +kernel) (by decide +kernel)
theorem v59 : ((Jvm.Cond.selects "EchoGorgeModel" ⟨"EchoGorgeModel","line","()V"⟩ ⟨"EchoGorgeModel","line","()V"⟩) : Cond) ∈ GW := gws (i := 59) (by decide +kernel) (by decide +kernel)
theorem v70 : ((Jvm.Cond.selects "EchoGorgeModel" ⟨"EchoGorgeModel","copies","([I[I)V"⟩ ⟨"EchoGorgeModel","copies","([I[I)V"⟩) : Cond) ∈ GW := gws (i := 70) (by decide +kernel) (by decide +kernel)
theorem v71 : ((Jvm.Cond.selects "EchoGorgeModel" ⟨"EchoGorgeModel","allLines","()I"⟩ ⟨"EchoGorgeModel","allLines","()I"⟩) : Cond) ∈ GW := gws (i := 71) (by decide +kernel) (by decide +kernel)
theorem v80 : ((Jvm.Cond.selects "EchoGorgeModel" ⟨"EchoGorgeModel","comes","(III)V"⟩ ⟨"EchoGorgeModel","comes","(III)V"⟩) : Cond) ∈ GW := gws (i := 80) (by decide +kernel) (by decide +kernel)
theorem v75 : ((Jvm.Cond.selects "EchoGorgeModel" ⟨"EchoGorgeModel","isSound","(I)Z"⟩ ⟨"EchoGorgeModel","isSound","(I)Z"⟩) : Cond) ∈ GW := gws (i := 75) (by decide +kernel) (by decide +kernel)
theorem v78 : ((Jvm.Cond.selects "EchoGorgeModel" ⟨"EchoGorgeModel","opens","(III)V"⟩ ⟨"EchoGorgeModel","opens","(III)V"⟩) : Cond) ∈ GW := gws (i := 78) (by decide +kernel) (by decide +kernel)
theorem v79 : ((Jvm.Cond.selects "EchoGorgeModel" ⟨"EchoGorgeModel","says","(II)V"⟩ ⟨"EchoGorgeModel","says","(II)V"⟩) : Cond) ∈ GW := gws (i := 79) (by decide +kernel) (by decide +kernel)
theorem v76 : ((Jvm.Cond.selects "EchoGorgeModel" ⟨"EchoGorgeModel","isWhere","(III)Z"⟩ ⟨"EchoGorgeModel","isWhere","(III)Z"⟩) : Cond) ∈ GW := gws (i := 76) (by decide +kernel) (by decide +kernel)
theorem v77 : ((Jvm.Cond.selects "EchoGorgeModel" ⟨"EchoGorgeModel","allSaid","(III)V"⟩ ⟨"EchoGorgeModel","allSaid","(III)V"⟩) : Cond) ∈ GW := gws (i := 77) (by decide +kernel) (by decide +kernel)
theorem v81 : ((Jvm.Cond.selects "EchoGorgeModel" ⟨"EchoGorgeModel","hears","(I)I"⟩ ⟨"EchoGorgeModel","hears","(I)I"⟩) : Cond) ∈ GW := gws (i := 81) (by decide +kernel) (by decide +kernel)
theorem v73 : ((Jvm.Cond.selects "EchoGorgeModel" ⟨"EchoGorgeModel","kindOf","(II)I"⟩ ⟨"EchoGorgeModel","kindOf","(II)I"⟩) : Cond) ∈ GW := gws (i := 73) (by decide +kernel) (by decide +kernel)
theorem v74 : ((Jvm.Cond.selects "EchoGorgeModel" ⟨"EchoGorgeModel","wordsOf","(I)I"⟩ ⟨"EchoGorgeModel","wordsOf","(I)I"⟩) : Cond) ∈ GW := gws (i := 74) (by decide +kernel) (by decide +kernel)
theorem v72 : ((Jvm.Cond.selects "EchoGorgeModel" ⟨"EchoGorgeModel","linesOf","(I)I"⟩ ⟨"EchoGorgeModel","linesOf","(I)I"⟩) : Cond) ∈ GW := gws (i := 72) (by decide +kernel) (by decide +kernel)
theorem v85 : ((Jvm.Cond.selects "EchoGorgeModel" ⟨"EchoGorgeModel","nextForm","()Z"⟩ ⟨"EchoGorgeModel","nextForm","()Z"⟩) : Cond) ∈ GW := gws (i := 85) (by decide +kernel) (by decide +kernel)
theorem v86 : ((Jvm.Cond.selects "EchoGorgeModel" ⟨"EchoGorgeModel","wordBehind","(II)I"⟩ ⟨"EchoGorgeModel","wordBehind","(II)I"⟩) : Cond) ∈ GW := gws (i := 86) (by decide +kernel) (by decide +kernel)
theorem v89 : ((Jvm.Cond.selects "EchoGorgeModel" ⟨"EchoGorgeModel","speaks","()V"⟩ ⟨"EchoGorgeModel","speaks","()V"⟩) : Cond) ∈ GW := gws (i := 89) (by decide +kernel) (by decide +kernel)
theorem v91 : ((Jvm.Cond.selects "EchoGorgeModel" ⟨"EchoGorgeModel","isWordAt","(II)Z"⟩ ⟨"EchoGorgeModel","isWordAt","(II)Z"⟩) : Cond) ∈ GW := gws (i := 91) (by decide +kernel) (by decide +kernel)
theorem v88 : ((Jvm.Cond.selects "EchoGorgeModel" ⟨"EchoGorgeModel","returns","(I)V"⟩ ⟨"EchoGorgeModel","returns","(I)V"⟩) : Cond) ∈ GW := gws (i := 88) (by decide +kernel) (by decide +kernel)
theorem v90 : ((Jvm.Cond.selects "EchoGorgeModel" ⟨"EchoGorgeModel","isLine","()Z"⟩ ⟨"EchoGorgeModel","isLine","()Z"⟩) : Cond) ∈ GW := gws (i := 90) (by decide +kernel) (by decide +kernel)
theorem v84 : ((Jvm.Cond.selects "EchoGorgeModel" ⟨"EchoGorgeModel","firstLine","()Z"⟩ ⟨"EchoGorgeModel","firstLine","()Z"⟩) : Cond) ∈ GW := gws (i := 84) (by decide +kernel) (by decide +kernel)
theorem v87 : ((Jvm.Cond.selects "EchoGorgeModel" ⟨"EchoGorgeModel","answers","(I)Z"⟩ ⟨"EchoGorgeModel","answers","(I)Z"⟩) : Cond) ∈ GW := gws (i := 87) (by decide +kernel) (by decide +kernel)
theorem v92 : ((Jvm.Cond.selects "EchoGorgeModel" ⟨"EchoGorgeModel","isEchoed","()Z"⟩ ⟨"EchoGorgeModel","isEchoed","()Z"⟩) : Cond) ∈ GW := gws (i := 92) (by decide +kernel) (by decide +kernel)
theorem v93 : ((Jvm.Cond.selects "EchoGorgeModel" ⟨"EchoGorgeModel","nextLine","()Z"⟩ ⟨"EchoGorgeModel","nextLine","()Z"⟩) : Cond) ∈ GW := gws (i := 93) (by decide +kernel) (by decide +kernel)
theorem v82 : ((Jvm.Cond.selects "EchoGorgeModel" ⟨"EchoGorgeModel","isHour","(I)Z"⟩ ⟨"EchoGorgeModel","isHour","(I)Z"⟩) : Cond) ∈ GW := gws (i := 82) (by decide +kernel) (by decide +kernel)
theorem v83 : ((Jvm.Cond.selects "EchoGorgeModel" ⟨"EchoGorgeModel","goesThrough","(I)V"⟩ ⟨"EchoGorgeModel","goesThrough","(I)V"⟩) : Cond) ∈ GW := gws (i := 83) (by decide +kernel) (by decide +kernel)
theorem v94 : ((Jvm.Cond.selects "EchoGorgeModel" ⟨"EchoGorgeModel","stillOf","(IIII)I"⟩ ⟨"EchoGorgeModel","stillOf","(IIII)I"⟩) : Cond) ∈ GW := gws (i := 94) (by decide +kernel) (by decide +kernel)
theorem v95 : ((Jvm.Cond.selects "EchoGorgeModel" ⟨"EchoGorgeModel","clashes","(I)I"⟩ ⟨"EchoGorgeModel","clashes","(I)I"⟩) : Cond) ∈ GW := gws (i := 95) (by decide +kernel) (by decide +kernel)
theorem v99 : ((Jvm.Cond.selects "EchoGorgeModel" ⟨"EchoGorgeModel","toldAt","(I)I"⟩ ⟨"EchoGorgeModel","toldAt","(I)I"⟩) : Cond) ∈ GW := gws (i := 99) (by decide +kernel) (by decide +kernel)
theorem v97 : ((Jvm.Cond.selects "EchoGorgeModel" ⟨"EchoGorgeModel","saysBy","(IIII)V"⟩ ⟨"EchoGorgeModel","saysBy","(IIII)V"⟩) : Cond) ∈ GW := gws (i := 97) (by decide +kernel) (by decide +kernel)
theorem v98 : ((Jvm.Cond.selects "EchoGorgeModel" ⟨"EchoGorgeModel","isTold","()Z"⟩ ⟨"EchoGorgeModel","isTold","()Z"⟩) : Cond) ∈ GW := gws (i := 98) (by decide +kernel) (by decide +kernel)
theorem v96 : ((Jvm.Cond.selects "EchoGorgeModel" ⟨"EchoGorgeModel","finds","(I)V"⟩ ⟨"EchoGorgeModel","finds","(I)V"⟩) : Cond) ∈ GW := gws (i := 96) (by decide +kernel) (by decide +kernel)
theorem v100 : ((Jvm.Cond.selects "EchoGorgeModel" ⟨"EchoGorgeModel","group","(II)I"⟩ ⟨"EchoGorgeModel","group","(II)I"⟩) : Cond) ∈ GW := gws (i := 100) (by decide +kernel) (by decide +kernel)
theorem v102 : ((Jvm.Cond.selects "EchoGorgeModel" ⟨"EchoGorgeModel","ticksTo","(II)I"⟩ ⟨"EchoGorgeModel","ticksTo","(II)I"⟩) : Cond) ∈ GW := gws (i := 102) (by decide +kernel) (by decide +kernel)
theorem v101 : ((Jvm.Cond.selects "EchoGorgeModel" ⟨"EchoGorgeModel","matches","(III)Z"⟩ ⟨"EchoGorgeModel","matches","(III)Z"⟩) : Cond) ∈ GW := gws (i := 101) (by decide +kernel) (by decide +kernel)
theorem v103 : ((Jvm.Cond.selects "EchoGorgeModel" ⟨"EchoGorgeModel","falls","(I)V"⟩ ⟨"EchoGorgeModel","falls","(I)V"⟩) : Cond) ∈ GW := gws (i := 103) (by decide +kernel) (by decide +kernel)
theorem lX0_23 : Fk RX0 23 8 8 5 0 0 := ⟨RX8, TX8, tyX8, ci_X8, by decide, rfl, wd210⟩
theorem lX0_39 : Fk RX0 39 7 9 2 0 0 := ⟨RX7, TX7, tyX7, ci_X7, by decide, rfl, wd294⟩
theorem lX0_44 : Fk RX0 44 7 9 0 4 1 := ⟨RX7, TX7, tyX7, ci_X7, by decide, rfl, wd287⟩
theorem lX0_53 : Fk RX0 53 8 8 4 4 3 := ⟨RX8, TX8, tyX8, ci_X8, by decide, rfl, wd207⟩
theorem lX0_56 : Fk RX0 56 7 9 1 4 2 := ⟨RX7, TX7, tyX7, ci_X7, by decide, rfl, wd290⟩
theorem lX0_59 : Fk RX0 59 2 21 0 0 0 := ⟨RX2, TX2, tyX2, ci_X2, by decide, rfl, wd50⟩
theorem lX0_64 : Fk RX0 64 2 21 4 0 0 := ⟨RX2, TX2, tyX2, ci_X2, by decide, rfl, wd69⟩
theorem lX0_71 : Fk RX0 71 2 21 9 4 3 := ⟨RX2, TX2, tyX2, ci_X2, by decide, rfl, wd89⟩
theorem lX0_9 : Fk RX0 9 0 1 0 4 1 := ⟨RX0, TX0, tyX0, ci_X0, by decide, rfl, wd420⟩
theorem lX1_15 : Fk RX1 15 1 5 1 4 2 := ⟨RX1, TX1, tyX1, ci_X1, by decide, rfl, wd514⟩
theorem lX1_42 : Fk RX1 42 1 5 2 0 0 := ⟨RX1, TX1, tyX1, ci_X1, by decide, rfl, wd515⟩
theorem lX1_46 : Fk RX1 46 1 5 3 0 0 := ⟨RX1, TX1, tyX1, ci_X1, by decide, rfl, wd516⟩
theorem lX1_49 : Fk RX1 49 1 5 4 0 0 := ⟨RX1, TX1, tyX1, ci_X1, by decide, rfl, wd517⟩
theorem lX1_9 : Fk RX1 9 1 5 0 4 1 := ⟨RX1, TX1, tyX1, ci_X1, by decide, rfl, wd512⟩
theorem lX2_15 : Fk RX2 15 2 21 8 4 2 := ⟨RX2, TX2, tyX2, ci_X2, by decide, rfl, wd86⟩
theorem lX2_18 : Fk RX2 18 2 21 9 4 3 := ⟨RX2, TX2, tyX2, ci_X2, by decide, rfl, wd88⟩
theorem lX2_24 : Fk RX2 24 2 21 11 4 5 := ⟨RX2, TX2, tyX2, ci_X2, by decide, rfl, wd95⟩
theorem lX2_27 : Fk RX2 27 2 21 12 4 6 := ⟨RX2, TX2, tyX2, ci_X2, by decide, rfl, wd98⟩
theorem lX2_33 : Fk RX2 33 2 21 14 4 8 := ⟨RX2, TX2, tyX2, ci_X2, by decide, rfl, wd105⟩
theorem lX2_36 : Fk RX2 36 2 21 15 4 9 := ⟨RX2, TX2, tyX2, ci_X2, by decide, rfl, wd108⟩
theorem lX2_57 : Fk RX2 57 2 21 0 0 0 := ⟨RX2, TX2, tyX2, ci_X2, by decide, rfl, wd48⟩
theorem lX2_61 : Fk RX2 61 2 21 1 0 0 := ⟨RX2, TX2, tyX2, ci_X2, by decide, rfl, wd54⟩
theorem lX2_64 : Fk RX2 64 2 21 2 0 0 := ⟨RX2, TX2, tyX2, ci_X2, by decide, rfl, wd59⟩
theorem lX2_67 : Fk RX2 67 2 21 3 0 0 := ⟨RX2, TX2, tyX2, ci_X2, by decide, rfl, wd63⟩
theorem lX2_70 : Fk RX2 70 2 21 4 0 0 := ⟨RX2, TX2, tyX2, ci_X2, by decide, rfl, wd67⟩
theorem lX2_73 : Fk RX2 73 2 21 5 0 0 := ⟨RX2, TX2, tyX2, ci_X2, by decide, rfl, wd73⟩
theorem lX2_76 : Fk RX2 76 2 21 6 0 0 := ⟨RX2, TX2, tyX2, ci_X2, by decide, rfl, wd78⟩
theorem lX3_101 : Fk RX3 101 3 8 7 0 0 := ⟨RX3, TX3, tyX3, ci_X3, by decide, rfl, wd440⟩
theorem lX3_104 : Fk RX3 104 3 8 6 0 0 := ⟨RX3, TX3, tyX3, ci_X3, by decide, rfl, wd439⟩
theorem lX3_107 : Fk RX3 107 2 21 0 0 0 := ⟨RX2, TX2, tyX2, ci_X2, by decide, rfl, wd52⟩
theorem lX3_114 : Fk RX3 114 7 9 1 4 2 := ⟨RX7, TX7, tyX7, ci_X7, by decide, rfl, wd291⟩
theorem lX3_117 : Fk RX3 117 2 21 4 0 0 := ⟨RX2, TX2, tyX2, ci_X2, by decide, rfl, wd70⟩
theorem lX3_120 : Fk RX3 120 2 21 7 4 1 := ⟨RX2, TX2, tyX2, ci_X2, by decide, rfl, wd84⟩
theorem lX3_121 : Fk RX3 121 2 21 6 0 0 := ⟨RX2, TX2, tyX2, ci_X2, by decide, rfl, wd80⟩
theorem lX3_18 : Fk RX3 18 3 8 1 4 2 := ⟨RX3, TX3, tyX3, ci_X3, by decide, rfl, wd434⟩
theorem lX3_22 : Fk RX3 22 3 8 2 1 0 := ⟨RX3, TX3, tyX3, ci_X3, by decide, rfl, wd435⟩
theorem lX3_26 : Fk RX3 26 3 8 3 0 0 := ⟨RX3, TX3, tyX3, ci_X3, by decide, rfl, wd436⟩
theorem lX3_30 : Fk RX3 30 3 8 5 0 0 := ⟨RX3, TX3, tyX3, ci_X3, by decide, rfl, wd438⟩
theorem lX3_33 : Fk RX3 33 2 21 15 4 9 := ⟨RX2, TX2, tyX2, ci_X2, by decide, rfl, wd109⟩
theorem lX3_64 : Fk RX3 64 2 21 5 0 0 := ⟨RX2, TX2, tyX2, ci_X2, by decide, rfl, wd75⟩
theorem lX3_71 : Fk RX3 71 8 8 0 4 1 := ⟨RX8, TX8, tyX8, ci_X8, by decide, rfl, wd196⟩
theorem lX3_9 : Fk RX3 9 3 8 0 4 1 := ⟨RX3, TX3, tyX3, ci_X3, by decide, rfl, wd432⟩
theorem lX3_90 : Fk RX3 90 8 8 2 4 2 := ⟨RX8, TX8, tyX8, ci_X8, by decide, rfl, wd202⟩
theorem lX3_98 : Fk RX3 98 3 8 4 0 0 := ⟨RX3, TX3, tyX3, ci_X3, by decide, rfl, wd437⟩
theorem lX4_15 : Fk RX4 15 4 9 1 4 2 := ⟨RX4, TX4, tyX4, ci_X4, by decide, rfl, wd327⟩
theorem lX4_18 : Fk RX4 18 4 9 2 4 3 := ⟨RX4, TX4, tyX4, ci_X4, by decide, rfl, wd328⟩
theorem lX4_21 : Fk RX4 21 4 9 3 3 0 := ⟨RX4, TX4, tyX4, ci_X4, by decide, rfl, wd329⟩
theorem lX4_25 : Fk RX4 25 4 9 4 3 0 := ⟨RX4, TX4, tyX4, ci_X4, by decide, rfl, wd330⟩
theorem lX4_29 : Fk RX4 29 4 9 5 3 0 := ⟨RX4, TX4, tyX4, ci_X4, by decide, rfl, wd331⟩
theorem lX4_32 : Fk RX4 32 4 9 6 0 0 := ⟨RX4, TX4, tyX4, ci_X4, by decide, rfl, wd332⟩
theorem lX4_36 : Fk RX4 36 4 9 7 0 0 := ⟨RX4, TX4, tyX4, ci_X4, by decide, rfl, wd333⟩
theorem lX4_39 : Fk RX4 39 4 9 8 0 0 := ⟨RX4, TX4, tyX4, ci_X4, by decide, rfl, wd334⟩
theorem lX4_42 : Fk RX4 42 7 9 2 0 0 := ⟨RX7, TX7, tyX7, ci_X7, by decide, rfl, wd292⟩
theorem lX4_47 : Fk RX4 47 7 9 0 4 1 := ⟨RX7, TX7, tyX7, ci_X7, by decide, rfl, wd286⟩
theorem lX4_54 : Fk RX4 54 7 9 1 4 2 := ⟨RX7, TX7, tyX7, ci_X7, by decide, rfl, wd289⟩
theorem lX4_57 : Fk RX4 57 2 21 4 0 0 := ⟨RX2, TX2, tyX2, ci_X2, by decide, rfl, wd68⟩
theorem lX4_62 : Fk RX4 62 2 21 5 0 0 := ⟨RX2, TX2, tyX2, ci_X2, by decide, rfl, wd74⟩
theorem lX4_71 : Fk RX4 71 2 21 6 0 0 := ⟨RX2, TX2, tyX2, ci_X2, by decide, rfl, wd79⟩
theorem lX4_9 : Fk RX4 9 4 9 0 4 1 := ⟨RX4, TX4, tyX4, ci_X4, by decide, rfl, wd326⟩
theorem lX5_15 : Fk RX5 15 5 2 1 4 2 := ⟨RX5, TX5, tyX5, ci_X5, by decide, rfl, wd500⟩
theorem lX5_18 : Fk RX5 18 8 8 7 4 5 := ⟨RX8, TX8, tyX8, ci_X8, by decide, rfl, wd216⟩
theorem lX5_29 : Fk RX5 29 8 8 6 4 4 := ⟨RX8, TX8, tyX8, ci_X8, by decide, rfl, wd213⟩
theorem lX5_9 : Fk RX5 9 5 2 0 4 1 := ⟨RX5, TX5, tyX5, ci_X5, by decide, rfl, wd499⟩
theorem lX6_141 : Fk RX6 141 2 21 7 4 1 := ⟨RX2, TX2, tyX2, ci_X2, by decide, rfl, wd85⟩
theorem lX6_145 : Fk RX6 145 2 21 8 4 2 := ⟨RX2, TX2, tyX2, ci_X2, by decide, rfl, wd87⟩
theorem lX6_151 : Fk RX6 151 2 21 1 0 0 := ⟨RX2, TX2, tyX2, ci_X2, by decide, rfl, wd57⟩
theorem lX6_154 : Fk RX6 154 2 21 10 4 4 := ⟨RX2, TX2, tyX2, ci_X2, by decide, rfl, wd94⟩
theorem lX6_157 : Fk RX6 157 2 21 11 4 5 := ⟨RX2, TX2, tyX2, ci_X2, by decide, rfl, wd97⟩
theorem lX6_160 : Fk RX6 160 2 21 12 4 6 := ⟨RX2, TX2, tyX2, ci_X2, by decide, rfl, wd100⟩
theorem lX6_163 : Fk RX6 163 2 21 13 4 7 := ⟨RX2, TX2, tyX2, ci_X2, by decide, rfl, wd104⟩
theorem lX6_174 : Fk RX6 174 2 21 14 4 8 := ⟨RX2, TX2, tyX2, ci_X2, by decide, rfl, wd107⟩
theorem lX6_176 : Fk RX6 176 2 21 15 4 9 := ⟨RX2, TX2, tyX2, ci_X2, by decide, rfl, wd112⟩
theorem lX6_178 : Fk RX6 178 2 21 4 0 0 := ⟨RX2, TX2, tyX2, ci_X2, by decide, rfl, wd71⟩
theorem lX6_181 : Fk RX6 181 2 21 5 0 0 := ⟨RX2, TX2, tyX2, ci_X2, by decide, rfl, wd77⟩
theorem lX6_184 : Fk RX6 184 2 21 6 0 0 := ⟨RX2, TX2, tyX2, ci_X2, by decide, rfl, wd81⟩
theorem lX6_190 : Fk RX6 190 2 21 9 4 3 := ⟨RX2, TX2, tyX2, ci_X2, by decide, rfl, wd90⟩
theorem lX6_192 : Fk RX6 192 2 21 2 0 0 := ⟨RX2, TX2, tyX2, ci_X2, by decide, rfl, wd62⟩
theorem lX6_195 : Fk RX6 195 2 21 16 4 10 := ⟨RX2, TX2, tyX2, ci_X2, by decide, rfl, wd116⟩
theorem lX6_198 : Fk RX6 198 2 21 17 4 11 := ⟨RX2, TX2, tyX2, ci_X2, by decide, rfl, wd120⟩
theorem lX6_200 : Fk RX6 200 2 21 18 4 12 := ⟨RX2, TX2, tyX2, ci_X2, by decide, rfl, wd124⟩
theorem lX6_203 : Fk RX6 203 2 21 3 0 0 := ⟨RX2, TX2, tyX2, ci_X2, by decide, rfl, wd66⟩
theorem lX6_206 : Fk RX6 206 2 21 19 4 13 := ⟨RX2, TX2, tyX2, ci_X2, by decide, rfl, wd127⟩
theorem lX6_209 : Fk RX6 209 2 21 20 4 14 := ⟨RX2, TX2, tyX2, ci_X2, by decide, rfl, wd130⟩
theorem lX6_21 : Fk RX6 21 6 12 1 0 0 := ⟨RX6, TX6, tyX6, ci_X6, by decide, rfl, wd242⟩
theorem lX6_25 : Fk RX6 25 6 12 2 3 0 := ⟨RX6, TX6, tyX6, ci_X6, by decide, rfl, wd243⟩
theorem lX6_34 : Fk RX6 34 6 12 5 0 0 := ⟨RX6, TX6, tyX6, ci_X6, by decide, rfl, wd246⟩
theorem lX6_37 : Fk RX6 37 6 12 7 0 0 := ⟨RX6, TX6, tyX6, ci_X6, by decide, rfl, wd248⟩
theorem lX6_40 : Fk RX6 40 6 12 8 1 0 := ⟨RX6, TX6, tyX6, ci_X6, by decide, rfl, wd249⟩
theorem lX6_44 : Fk RX6 44 6 12 9 1 0 := ⟨RX6, TX6, tyX6, ci_X6, by decide, rfl, wd250⟩
theorem lX6_47 : Fk RX6 47 6 12 10 0 0 := ⟨RX6, TX6, tyX6, ci_X6, by decide, rfl, wd251⟩
theorem lX6_50 : Fk RX6 50 6 12 11 0 0 := ⟨RX6, TX6, tyX6, ci_X6, by decide, rfl, wd252⟩
theorem lX6_56 : Fk RX6 56 6 12 3 0 0 := ⟨RX6, TX6, tyX6, ci_X6, by decide, rfl, wd244⟩
theorem lX6_63 : Fk RX6 63 6 12 4 0 0 := ⟨RX6, TX6, tyX6, ci_X6, by decide, rfl, wd245⟩
theorem lX6_66 : Fk RX6 66 6 12 6 0 0 := ⟨RX6, TX6, tyX6, ci_X6, by decide, rfl, wd247⟩
theorem lX6_9 : Fk RX6 9 6 12 0 3 0 := ⟨RX6, TX6, tyX6, ci_X6, by decide, rfl, wd241⟩
theorem lX6_94 : Fk RX6 94 2 21 0 0 0 := ⟨RX2, TX2, tyX2, ci_X2, by decide, rfl, wd53⟩
theorem lX7_11 : Fk RX7 11 7 9 0 4 1 := ⟨RX7, TX7, tyX7, ci_X7, by decide, rfl, wd285⟩
theorem lX7_15 : Fk RX7 15 7 9 1 4 2 := ⟨RX7, TX7, tyX7, ci_X7, by decide, rfl, wd288⟩
theorem lX7_18 : Fk RX7 18 7 9 3 4 3 := ⟨RX7, TX7, tyX7, ci_X7, by decide, rfl, wd295⟩
theorem lX7_21 : Fk RX7 21 7 9 4 1 0 := ⟨RX7, TX7, tyX7, ci_X7, by decide, rfl, wd296⟩
theorem lX7_25 : Fk RX7 25 7 9 5 0 0 := ⟨RX7, TX7, tyX7, ci_X7, by decide, rfl, wd297⟩
theorem lX7_29 : Fk RX7 29 7 9 6 0 0 := ⟨RX7, TX7, tyX7, ci_X7, by decide, rfl, wd298⟩
theorem lX7_32 : Fk RX7 32 7 9 7 0 0 := ⟨RX7, TX7, tyX7, ci_X7, by decide, rfl, wd299⟩
theorem lX7_35 : Fk RX7 35 7 9 8 0 0 := ⟨RX7, TX7, tyX7, ci_X7, by decide, rfl, wd300⟩
theorem lX7_38 : Fk RX7 38 7 9 2 0 0 := ⟨RX7, TX7, tyX7, ci_X7, by decide, rfl, wd293⟩
theorem lX7_41 : Fk RX7 41 2 21 14 4 8 := ⟨RX2, TX2, tyX2, ci_X2, by decide, rfl, wd106⟩
theorem lX7_50 : Fk RX7 50 2 21 7 4 1 := ⟨RX2, TX2, tyX2, ci_X2, by decide, rfl, wd83⟩
theorem lX7_51 : Fk RX7 51 2 21 0 0 0 := ⟨RX2, TX2, tyX2, ci_X2, by decide, rfl, wd49⟩
theorem lX7_60 : Fk RX7 60 2 21 1 0 0 := ⟨RX2, TX2, tyX2, ci_X2, by decide, rfl, wd55⟩
theorem lX7_71 : Fk RX7 71 2 21 10 4 4 := ⟨RX2, TX2, tyX2, ci_X2, by decide, rfl, wd92⟩
theorem lX7_74 : Fk RX7 74 2 21 13 4 7 := ⟨RX2, TX2, tyX2, ci_X2, by decide, rfl, wd102⟩
theorem lX8_15 : Fk RX8 15 8 8 2 4 2 := ⟨RX8, TX8, tyX8, ci_X8, by decide, rfl, wd200⟩
theorem lX8_18 : Fk RX8 18 8 8 4 4 3 := ⟨RX8, TX8, tyX8, ci_X8, by decide, rfl, wd206⟩
theorem lX8_21 : Fk RX8 21 8 8 6 4 4 := ⟨RX8, TX8, tyX8, ci_X8, by decide, rfl, wd212⟩
theorem lX8_24 : Fk RX8 24 8 8 7 4 5 := ⟨RX8, TX8, tyX8, ci_X8, by decide, rfl, wd215⟩
theorem lX8_42 : Fk RX8 42 8 8 5 0 0 := ⟨RX8, TX8, tyX8, ci_X8, by decide, rfl, wd209⟩
theorem lX8_46 : Fk RX8 46 8 8 1 0 0 := ⟨RX8, TX8, tyX8, ci_X8, by decide, rfl, wd198⟩
theorem lX8_49 : Fk RX8 49 8 8 3 0 0 := ⟨RX8, TX8, tyX8, ci_X8, by decide, rfl, wd204⟩
theorem lX8_9 : Fk RX8 9 8 8 0 4 1 := ⟨RX8, TX8, tyX8, ci_X8, by decide, rfl, wd195⟩
theorem lX9_15 : Fk RX9 15 9 9 2 4 2 := ⟨RX9, TX9, tyX9, ci_X9, by decide, rfl, wd467⟩
theorem lX9_18 : Fk RX9 18 9 9 3 4 3 := ⟨RX9, TX9, tyX9, ci_X9, by decide, rfl, wd468⟩
theorem lX9_21 : Fk RX9 21 9 9 1 1 0 := ⟨RX9, TX9, tyX9, ci_X9, by decide, rfl, wd466⟩
theorem lX9_25 : Fk RX9 25 9 9 5 3 0 := ⟨RX9, TX9, tyX9, ci_X9, by decide, rfl, wd470⟩
theorem lX9_29 : Fk RX9 29 9 9 6 3 0 := ⟨RX9, TX9, tyX9, ci_X9, by decide, rfl, wd471⟩
theorem lX9_33 : Fk RX9 33 9 9 7 3 0 := ⟨RX9, TX9, tyX9, ci_X9, by decide, rfl, wd472⟩
theorem lX9_37 : Fk RX9 37 9 9 8 3 0 := ⟨RX9, TX9, tyX9, ci_X9, by decide, rfl, wd473⟩
theorem lX9_47 : Fk RX9 47 9 9 4 0 0 := ⟨RX9, TX9, tyX9, ci_X9, by decide, rfl, wd469⟩
theorem lX9_51 : Fk RX9 51 8 8 2 4 2 := ⟨RX8, TX8, tyX8, ci_X8, by decide, rfl, wd201⟩
theorem lX9_9 : Fk RX9 9 9 9 0 4 1 := ⟨RX9, TX9, tyX9, ci_X9, by decide, rfl, wd464⟩
theorem lX10_129 : Fk RX10 129 2 21 15 4 9 := ⟨RX2, TX2, tyX2, ci_X2, by decide, rfl, wd110⟩
theorem lX10_14 : Fk RX10 14 10 16 0 3 0 := ⟨RX10, TX10, tyX10, ci_X10, by decide, rfl, wd363⟩
theorem lX10_170 : Fk RX10 170 2 21 4 0 0 := ⟨RX2, TX2, tyX2, ci_X2, by decide, rfl, wd72⟩
theorem lX10_18 : Fk RX10 18 10 16 5 4 16 := ⟨RX10, TX10, tyX10, ci_X10, by decide, rfl, wd370⟩
theorem lX10_180 : Fk RX10 180 2 21 1 0 0 := ⟨RX2, TX2, tyX2, ci_X2, by decide, rfl, wd58⟩
theorem lX10_22 : Fk RX10 22 10 16 6 4 17 := ⟨RX10, TX10, tyX10, ci_X10, by decide, rfl, wd371⟩
theorem lX10_25 : Fk RX10 25 10 16 7 4 18 := ⟨RX10, TX10, tyX10, ci_X10, by decide, rfl, wd372⟩
theorem lX10_28 : Fk RX10 28 10 16 8 4 19 := ⟨RX10, TX10, tyX10, ci_X10, by decide, rfl, wd373⟩
theorem lX10_31 : Fk RX10 31 10 16 9 4 20 := ⟨RX10, TX10, tyX10, ci_X10, by decide, rfl, wd374⟩
theorem lX10_34 : Fk RX10 34 10 16 10 4 21 := ⟨RX10, TX10, tyX10, ci_X10, by decide, rfl, wd375⟩
theorem lX10_37 : Fk RX10 37 10 16 11 4 22 := ⟨RX10, TX10, tyX10, ci_X10, by decide, rfl, wd376⟩
theorem lX10_40 : Fk RX10 40 10 16 13 4 23 := ⟨RX10, TX10, tyX10, ci_X10, by decide, rfl, wd378⟩
theorem lX10_43 : Fk RX10 43 10 16 15 4 24 := ⟨RX10, TX10, tyX10, ci_X10, by decide, rfl, wd380⟩
theorem lX10_52 : Fk RX10 52 2 21 2 0 0 := ⟨RX2, TX2, tyX2, ci_X2, by decide, rfl, wd60⟩
theorem lX10_56 : Fk RX10 56 2 21 16 4 10 := ⟨RX2, TX2, tyX2, ci_X2, by decide, rfl, wd114⟩
theorem lX10_59 : Fk RX10 59 10 16 1 0 0 := ⟨RX10, TX10, tyX10, ci_X10, by decide, rfl, wd364⟩
theorem lX10_62 : Fk RX10 62 10 16 2 0 0 := ⟨RX10, TX10, tyX10, ci_X10, by decide, rfl, wd366⟩
theorem lX10_65 : Fk RX10 65 10 16 3 0 0 := ⟨RX10, TX10, tyX10, ci_X10, by decide, rfl, wd368⟩
theorem lX10_68 : Fk RX10 68 2 21 3 0 0 := ⟨RX2, TX2, tyX2, ci_X2, by decide, rfl, wd64⟩
theorem lX10_75 : Fk RX10 75 10 16 4 0 0 := ⟨RX10, TX10, tyX10, ci_X10, by decide, rfl, wd369⟩
theorem lX10_78 : Fk RX10 78 2 21 19 4 13 := ⟨RX2, TX2, tyX2, ci_X2, by decide, rfl, wd126⟩
theorem lX10_81 : Fk RX10 81 2 21 20 4 14 := ⟨RX2, TX2, tyX2, ci_X2, by decide, rfl, wd129⟩
theorem lX10_84 : Fk RX10 84 2 21 17 4 11 := ⟨RX2, TX2, tyX2, ci_X2, by decide, rfl, wd118⟩
theorem lX10_93 : Fk RX10 93 10 16 12 0 0 := ⟨RX10, TX10, tyX10, ci_X10, by decide, rfl, wd377⟩
theorem lX10_95 : Fk RX10 95 2 21 18 4 12 := ⟨RX2, TX2, tyX2, ci_X2, by decide, rfl, wd122⟩
theorem lX10_98 : Fk RX10 98 10 16 14 0 0 := ⟨RX10, TX10, tyX10, ci_X10, by decide, rfl, wd379⟩
theorem lX11_100 : Fk RX11 100 11 18 16 4 91 := ⟨RX11, TX11, tyX11, ci_X11, by decide, rfl, wd545⟩
theorem lX11_107 : Fk RX11 107 11 18 17 4 94 := ⟨RX11, TX11, tyX11, ci_X11, by decide, rfl, wd546⟩
theorem lX11_122 : Fk RX11 122 6 12 11 0 0 := ⟨RX6, TX6, tyX6, ci_X6, by decide, rfl, wd253⟩
theorem lX11_13 : Fk RX11 13 11 18 1 0 0 := ⟨RX11, TX11, tyX11, ci_X11, by decide, rfl, wd530⟩
theorem lX11_135 : Fk RX11 135 2 21 0 0 0 := ⟨RX2, TX2, tyX2, ci_X2, by decide, rfl, wd51⟩
theorem lX11_138 : Fk RX11 138 2 21 1 0 0 := ⟨RX2, TX2, tyX2, ci_X2, by decide, rfl, wd56⟩
theorem lX11_141 : Fk RX11 141 2 21 2 0 0 := ⟨RX2, TX2, tyX2, ci_X2, by decide, rfl, wd61⟩
theorem lX11_144 : Fk RX11 144 2 21 3 0 0 := ⟨RX2, TX2, tyX2, ci_X2, by decide, rfl, wd65⟩
theorem lX11_147 : Fk RX11 147 8 8 1 0 0 := ⟨RX8, TX8, tyX8, ci_X8, by decide, rfl, wd199⟩
theorem lX11_150 : Fk RX11 150 8 8 3 0 0 := ⟨RX8, TX8, tyX8, ci_X8, by decide, rfl, wd205⟩
theorem lX11_153 : Fk RX11 153 10 16 1 0 0 := ⟨RX10, TX10, tyX10, ci_X10, by decide, rfl, wd365⟩
theorem lX11_162 : Fk RX11 162 2 21 10 4 4 := ⟨RX2, TX2, tyX2, ci_X2, by decide, rfl, wd93⟩
theorem lX11_165 : Fk RX11 165 2 21 11 4 5 := ⟨RX2, TX2, tyX2, ci_X2, by decide, rfl, wd96⟩
theorem lX11_168 : Fk RX11 168 2 21 12 4 6 := ⟨RX2, TX2, tyX2, ci_X2, by decide, rfl, wd99⟩
theorem lX11_17 : Fk RX11 17 11 18 2 0 0 := ⟨RX11, TX11, tyX11, ci_X11, by decide, rfl, wd531⟩
theorem lX11_171 : Fk RX11 171 2 21 13 4 7 := ⟨RX2, TX2, tyX2, ci_X2, by decide, rfl, wd103⟩
theorem lX11_174 : Fk RX11 174 2 21 16 4 10 := ⟨RX2, TX2, tyX2, ci_X2, by decide, rfl, wd115⟩
theorem lX11_177 : Fk RX11 177 2 21 17 4 11 := ⟨RX2, TX2, tyX2, ci_X2, by decide, rfl, wd119⟩
theorem lX11_180 : Fk RX11 180 2 21 18 4 12 := ⟨RX2, TX2, tyX2, ci_X2, by decide, rfl, wd123⟩
theorem lX11_197 : Fk RX11 197 2 21 15 4 9 := ⟨RX2, TX2, tyX2, ci_X2, by decide, rfl, wd111⟩
theorem lX11_20 : Fk RX11 20 11 18 3 4 2 := ⟨RX11, TX11, tyX11, ci_X11, by decide, rfl, wd532⟩
theorem lX11_204 : Fk RX11 204 8 8 0 4 1 := ⟨RX8, TX8, tyX8, ci_X8, by decide, rfl, wd197⟩
theorem lX11_211 : Fk RX11 211 2 21 5 0 0 := ⟨RX2, TX2, tyX2, ci_X2, by decide, rfl, wd76⟩
theorem lX11_233 : Fk RX11 233 10 16 2 0 0 := ⟨RX10, TX10, tyX10, ci_X10, by decide, rfl, wd367⟩
theorem lX11_256 : Fk RX11 256 8 8 4 4 3 := ⟨RX8, TX8, tyX8, ci_X8, by decide, rfl, wd208⟩
theorem lX11_259 : Fk RX11 259 8 8 5 0 0 := ⟨RX8, TX8, tyX8, ci_X8, by decide, rfl, wd211⟩
theorem lX11_27 : Fk RX11 27 11 18 4 3 0 := ⟨RX11, TX11, tyX11, ci_X11, by decide, rfl, wd533⟩
theorem lX11_270 : Fk RX11 270 8 8 2 4 2 := ⟨RX8, TX8, tyX8, ci_X8, by decide, rfl, wd203⟩
theorem lX11_280 : Fk RX11 280 3 8 0 4 1 := ⟨RX3, TX3, tyX3, ci_X3, by decide, rfl, wd433⟩
theorem lX11_286 : Fk RX11 286 9 9 0 4 1 := ⟨RX9, TX9, tyX9, ci_X9, by decide, rfl, wd465⟩
theorem lX11_290 : Fk RX11 290 8 8 6 4 4 := ⟨RX8, TX8, tyX8, ci_X8, by decide, rfl, wd214⟩
theorem lX11_293 : Fk RX11 293 8 8 7 4 5 := ⟨RX8, TX8, tyX8, ci_X8, by decide, rfl, wd217⟩
theorem lX11_31 : Fk RX11 31 11 18 5 3 0 := ⟨RX11, TX11, tyX11, ci_X11, by decide, rfl, wd534⟩
theorem lX11_315 : Fk RX11 315 1 5 0 4 1 := ⟨RX1, TX1, tyX1, ci_X1, by decide, rfl, wd513⟩
theorem lX11_37 : Fk RX11 37 11 18 6 4 33 := ⟨RX11, TX11, tyX11, ci_X11, by decide, rfl, wd535⟩
theorem lX11_41 : Fk RX11 41 11 18 7 4 39 := ⟨RX11, TX11, tyX11, ci_X11, by decide, rfl, wd536⟩
theorem lX11_44 : Fk RX11 44 11 18 8 1 0 := ⟨RX11, TX11, tyX11, ci_X11, by decide, rfl, wd537⟩
theorem lX11_51 : Fk RX11 51 11 18 9 4 45 := ⟨RX11, TX11, tyX11, ci_X11, by decide, rfl, wd538⟩
theorem lX11_58 : Fk RX11 58 11 18 10 4 46 := ⟨RX11, TX11, tyX11, ci_X11, by decide, rfl, wd539⟩
theorem lX11_65 : Fk RX11 65 11 18 11 4 50 := ⟨RX11, TX11, tyX11, ci_X11, by decide, rfl, wd540⟩
theorem lX11_72 : Fk RX11 72 11 18 12 4 54 := ⟨RX11, TX11, tyX11, ci_X11, by decide, rfl, wd541⟩
theorem lX11_79 : Fk RX11 79 11 18 13 4 79 := ⟨RX11, TX11, tyX11, ci_X11, by decide, rfl, wd542⟩
theorem lX11_86 : Fk RX11 86 11 18 14 4 81 := ⟨RX11, TX11, tyX11, ci_X11, by decide, rfl, wd543⟩
theorem lX11_9 : Fk RX11 9 11 18 0 4 1 := ⟨RX11, TX11, tyX11, ci_X11, by decide, rfl, wd529⟩
theorem lX11_93 : Fk RX11 93 11 18 15 4 87 := ⟨RX11, TX11, tyX11, ci_X11, by decide, rfl, wd544⟩
theorem lX12_101 : Fk RX12 101 12 87 71 4 28 := ⟨RX12, TX12, tyX12, ci_X12, by decide, rfl, wd1386⟩
theorem lX12_105 : Fk RX12 105 12 87 73 4 29 := ⟨RX12, TX12, tyX12, ci_X12, by decide, rfl, wd1388⟩
theorem lX12_108 : Fk RX12 108 12 87 74 4 30 := ⟨RX12, TX12, tyX12, ci_X12, by decide, rfl, wd1389⟩
theorem lX12_111 : Fk RX12 111 12 87 75 4 31 := ⟨RX12, TX12, tyX12, ci_X12, by decide, rfl, wd1390⟩
theorem lX12_115 : Fk RX12 115 12 87 76 4 32 := ⟨RX12, TX12, tyX12, ci_X12, by decide, rfl, wd1391⟩
theorem lX12_118 : Fk RX12 118 12 87 77 4 33 := ⟨RX12, TX12, tyX12, ci_X12, by decide, rfl, wd1392⟩
theorem lX12_121 : Fk RX12 121 12 87 82 4 34 := ⟨RX12, TX12, tyX12, ci_X12, by decide, rfl, wd1397⟩
theorem lX12_124 : Fk RX12 124 12 87 83 4 35 := ⟨RX12, TX12, tyX12, ci_X12, by decide, rfl, wd1398⟩
theorem lX12_127 : Fk RX12 127 12 87 84 4 36 := ⟨RX12, TX12, tyX12, ci_X12, by decide, rfl, wd1399⟩
theorem lX12_13 : Fk RX12 13 12 87 8 4 1 := ⟨RX12, TX12, tyX12, ci_X12, by decide, rfl, wd1323⟩
theorem lX12_130 : Fk RX12 130 12 87 85 4 37 := ⟨RX12, TX12, tyX12, ci_X12, by decide, rfl, wd1400⟩
theorem lX12_133 : Fk RX12 133 12 87 86 4 38 := ⟨RX12, TX12, tyX12, ci_X12, by decide, rfl, wd1401⟩
theorem lX12_136 : Fk RX12 136 12 87 0 0 0 := ⟨RX12, TX12, tyX12, ci_X12, by decide, rfl, wd1315⟩
theorem lX12_139 : Fk RX12 139 12 87 16 0 0 := ⟨RX12, TX12, tyX12, ci_X12, by decide, rfl, wd1331⟩
theorem lX12_146 : Fk RX12 146 12 87 20 0 0 := ⟨RX12, TX12, tyX12, ci_X12, by decide, rfl, wd1335⟩
theorem lX12_149 : Fk RX12 149 12 87 21 0 0 := ⟨RX12, TX12, tyX12, ci_X12, by decide, rfl, wd1336⟩
theorem lX12_156 : Fk RX12 156 12 87 23 0 0 := ⟨RX12, TX12, tyX12, ci_X12, by decide, rfl, wd1338⟩
theorem lX12_159 : Fk RX12 159 12 87 26 2 0 := ⟨RX12, TX12, tyX12, ci_X12, by decide, rfl, wd1341⟩
theorem lX12_163 : Fk RX12 163 12 87 25 0 0 := ⟨RX12, TX12, tyX12, ci_X12, by decide, rfl, wd1340⟩
theorem lX12_166 : Fk RX12 166 12 87 22 0 0 := ⟨RX12, TX12, tyX12, ci_X12, by decide, rfl, wd1337⟩
theorem lX12_17 : Fk RX12 17 12 87 9 4 2 := ⟨RX12, TX12, tyX12, ci_X12, by decide, rfl, wd1324⟩
theorem lX12_176 : Fk RX12 176 12 87 24 0 0 := ⟨RX12, TX12, tyX12, ci_X12, by decide, rfl, wd1339⟩
theorem lX12_187 : Fk RX12 187 12 87 17 0 0 := ⟨RX12, TX12, tyX12, ci_X12, by decide, rfl, wd1332⟩
theorem lX12_20 : Fk RX12 20 12 87 10 4 3 := ⟨RX12, TX12, tyX12, ci_X12, by decide, rfl, wd1325⟩
theorem lX12_200 : Fk RX12 200 12 87 27 0 0 := ⟨RX12, TX12, tyX12, ci_X12, by decide, rfl, wd1342⟩
theorem lX12_203 : Fk RX12 203 12 87 28 0 0 := ⟨RX12, TX12, tyX12, ci_X12, by decide, rfl, wd1343⟩
theorem lX12_216 : Fk RX12 216 12 87 29 0 0 := ⟨RX12, TX12, tyX12, ci_X12, by decide, rfl, wd1344⟩
theorem lX12_219 : Fk RX12 219 12 87 30 0 0 := ⟨RX12, TX12, tyX12, ci_X12, by decide, rfl, wd1345⟩
theorem lX12_222 : Fk RX12 222 12 87 34 0 0 := ⟨RX12, TX12, tyX12, ci_X12, by decide, rfl, wd1349⟩
theorem lX12_228 : Fk RX12 228 12 87 35 1 0 := ⟨RX12, TX12, tyX12, ci_X12, by decide, rfl, wd1350⟩
theorem lX12_23 : Fk RX12 23 12 87 11 4 4 := ⟨RX12, TX12, tyX12, ci_X12, by decide, rfl, wd1326⟩
theorem lX12_235 : Fk RX12 235 12 87 36 1 0 := ⟨RX12, TX12, tyX12, ci_X12, by decide, rfl, wd1351⟩
theorem lX12_238 : Fk RX12 238 12 87 31 0 0 := ⟨RX12, TX12, tyX12, ci_X12, by decide, rfl, wd1346⟩
theorem lX12_241 : Fk RX12 241 12 87 32 0 0 := ⟨RX12, TX12, tyX12, ci_X12, by decide, rfl, wd1347⟩
theorem lX12_244 : Fk RX12 244 12 87 33 0 0 := ⟨RX12, TX12, tyX12, ci_X12, by decide, rfl, wd1348⟩
theorem lX12_26 : Fk RX12 26 12 87 12 4 5 := ⟨RX12, TX12, tyX12, ci_X12, by decide, rfl, wd1327⟩
theorem lX12_267 : Fk RX12 267 12 87 1 0 0 := ⟨RX12, TX12, tyX12, ci_X12, by decide, rfl, wd1316⟩
theorem lX12_270 : Fk RX12 270 12 87 2 0 0 := ⟨RX12, TX12, tyX12, ci_X12, by decide, rfl, wd1317⟩
theorem lX12_273 : Fk RX12 273 12 87 3 0 0 := ⟨RX12, TX12, tyX12, ci_X12, by decide, rfl, wd1318⟩
theorem lX12_276 : Fk RX12 276 12 87 4 0 0 := ⟨RX12, TX12, tyX12, ci_X12, by decide, rfl, wd1319⟩
theorem lX12_279 : Fk RX12 279 12 87 6 0 0 := ⟨RX12, TX12, tyX12, ci_X12, by decide, rfl, wd1321⟩
theorem lX12_282 : Fk RX12 282 12 87 7 0 0 := ⟨RX12, TX12, tyX12, ci_X12, by decide, rfl, wd1322⟩
theorem lX12_289 : Fk RX12 289 12 87 50 0 0 := ⟨RX12, TX12, tyX12, ci_X12, by decide, rfl, wd1365⟩
theorem lX12_29 : Fk RX12 29 12 87 13 4 6 := ⟨RX12, TX12, tyX12, ci_X12, by decide, rfl, wd1328⟩
theorem lX12_292 : Fk RX12 292 12 87 68 0 0 := ⟨RX12, TX12, tyX12, ci_X12, by decide, rfl, wd1383⟩
theorem lX12_295 : Fk RX12 295 12 87 66 0 0 := ⟨RX12, TX12, tyX12, ci_X12, by decide, rfl, wd1381⟩
theorem lX12_298 : Fk RX12 298 12 87 78 1 0 := ⟨RX12, TX12, tyX12, ci_X12, by decide, rfl, wd1393⟩
theorem lX12_309 : Fk RX12 309 12 87 45 0 0 := ⟨RX12, TX12, tyX12, ci_X12, by decide, rfl, wd1360⟩
theorem lX12_312 : Fk RX12 312 12 87 48 0 0 := ⟨RX12, TX12, tyX12, ci_X12, by decide, rfl, wd1363⟩
theorem lX12_315 : Fk RX12 315 12 87 49 0 0 := ⟨RX12, TX12, tyX12, ci_X12, by decide, rfl, wd1364⟩
theorem lX12_32 : Fk RX12 32 12 87 14 4 7 := ⟨RX12, TX12, tyX12, ci_X12, by decide, rfl, wd1329⟩
theorem lX12_322 : Fk RX12 322 12 87 46 0 0 := ⟨RX12, TX12, tyX12, ci_X12, by decide, rfl, wd1361⟩
theorem lX12_35 : Fk RX12 35 12 87 15 4 8 := ⟨RX12, TX12, tyX12, ci_X12, by decide, rfl, wd1330⟩
theorem lX12_353 : Fk RX12 353 12 87 53 0 0 := ⟨RX12, TX12, tyX12, ci_X12, by decide, rfl, wd1368⟩
theorem lX12_362 : Fk RX12 362 12 87 57 0 0 := ⟨RX12, TX12, tyX12, ci_X12, by decide, rfl, wd1372⟩
theorem lX12_368 : Fk RX12 368 12 87 58 0 0 := ⟨RX12, TX12, tyX12, ci_X12, by decide, rfl, wd1373⟩
theorem lX12_38 : Fk RX12 38 12 87 18 0 0 := ⟨RX12, TX12, tyX12, ci_X12, by decide, rfl, wd1333⟩
theorem lX12_381 : Fk RX12 381 12 87 59 0 0 := ⟨RX12, TX12, tyX12, ci_X12, by decide, rfl, wd1374⟩
theorem lX12_384 : Fk RX12 384 12 87 60 0 0 := ⟨RX12, TX12, tyX12, ci_X12, by decide, rfl, wd1375⟩
theorem lX12_387 : Fk RX12 387 12 87 61 0 0 := ⟨RX12, TX12, tyX12, ci_X12, by decide, rfl, wd1376⟩
theorem lX12_390 : Fk RX12 390 12 87 63 0 0 := ⟨RX12, TX12, tyX12, ci_X12, by decide, rfl, wd1378⟩
theorem lX12_402 : Fk RX12 402 12 87 62 0 0 := ⟨RX12, TX12, tyX12, ci_X12, by decide, rfl, wd1377⟩
theorem lX12_41 : Fk RX12 41 12 87 19 4 9 := ⟨RX12, TX12, tyX12, ci_X12, by decide, rfl, wd1334⟩
theorem lX12_427 : Fk RX12 427 12 87 72 0 0 := ⟨RX12, TX12, tyX12, ci_X12, by decide, rfl, wd1387⟩
theorem lX12_44 : Fk RX12 44 12 87 37 4 10 := ⟨RX12, TX12, tyX12, ci_X12, by decide, rfl, wd1352⟩
theorem lX12_458 : Fk RX12 458 12 87 79 0 0 := ⟨RX12, TX12, tyX12, ci_X12, by decide, rfl, wd1394⟩
theorem lX12_461 : Fk RX12 461 12 87 80 0 0 := ⟨RX12, TX12, tyX12, ci_X12, by decide, rfl, wd1395⟩
theorem lX12_464 : Fk RX12 464 12 87 81 0 0 := ⟨RX12, TX12, tyX12, ci_X12, by decide, rfl, wd1396⟩
theorem lX12_47 : Fk RX12 47 12 87 38 4 11 := ⟨RX12, TX12, tyX12, ci_X12, by decide, rfl, wd1353⟩
theorem lX12_50 : Fk RX12 50 12 87 39 4 12 := ⟨RX12, TX12, tyX12, ci_X12, by decide, rfl, wd1354⟩
theorem lX12_53 : Fk RX12 53 12 87 40 4 13 := ⟨RX12, TX12, tyX12, ci_X12, by decide, rfl, wd1355⟩
theorem lX12_56 : Fk RX12 56 12 87 41 4 14 := ⟨RX12, TX12, tyX12, ci_X12, by decide, rfl, wd1356⟩
theorem lX12_59 : Fk RX12 59 12 87 42 4 15 := ⟨RX12, TX12, tyX12, ci_X12, by decide, rfl, wd1357⟩
theorem lX12_62 : Fk RX12 62 12 87 43 4 16 := ⟨RX12, TX12, tyX12, ci_X12, by decide, rfl, wd1358⟩
theorem lX12_65 : Fk RX12 65 12 87 44 4 17 := ⟨RX12, TX12, tyX12, ci_X12, by decide, rfl, wd1359⟩
theorem lX12_68 : Fk RX12 68 12 87 47 0 0 := ⟨RX12, TX12, tyX12, ci_X12, by decide, rfl, wd1362⟩
theorem lX12_7 : Fk RX12 7 12 87 5 0 0 := ⟨RX12, TX12, tyX12, ci_X12, by decide, rfl, wd1320⟩
theorem lX12_71 : Fk RX12 71 12 87 51 4 18 := ⟨RX12, TX12, tyX12, ci_X12, by decide, rfl, wd1366⟩
theorem lX12_74 : Fk RX12 74 12 87 52 4 19 := ⟨RX12, TX12, tyX12, ci_X12, by decide, rfl, wd1367⟩
theorem lX12_77 : Fk RX12 77 12 87 54 4 20 := ⟨RX12, TX12, tyX12, ci_X12, by decide, rfl, wd1369⟩
theorem lX12_80 : Fk RX12 80 12 87 55 4 21 := ⟨RX12, TX12, tyX12, ci_X12, by decide, rfl, wd1370⟩
theorem lX12_83 : Fk RX12 83 12 87 56 4 22 := ⟨RX12, TX12, tyX12, ci_X12, by decide, rfl, wd1371⟩
theorem lX12_86 : Fk RX12 86 12 87 64 4 23 := ⟨RX12, TX12, tyX12, ci_X12, by decide, rfl, wd1379⟩
theorem lX12_89 : Fk RX12 89 12 87 65 4 24 := ⟨RX12, TX12, tyX12, ci_X12, by decide, rfl, wd1380⟩
theorem lX12_92 : Fk RX12 92 12 87 67 4 25 := ⟨RX12, TX12, tyX12, ci_X12, by decide, rfl, wd1382⟩
theorem lX12_95 : Fk RX12 95 12 87 69 4 26 := ⟨RX12, TX12, tyX12, ci_X12, by decide, rfl, wd1384⟩
theorem lX12_98 : Fk RX12 98 12 87 70 4 27 := ⟨RX12, TX12, tyX12, ci_X12, by decide, rfl, wd1385⟩
theorem kX0_15 : LkV RX0 15 mX0_listen 5 := ⟨⟨wd1124, wd9, (by unfold yw; rw [if_pos rfl]; exact wd1127), ⟨by decide, by decide, by decide +kernel⟩, by decide⟩, wd1126, v39⟩
theorem kX0_19 : LkS RX0 19 mX0_isClash 2 := ⟨⟨wd1132, wd9, (by unfold yw; rw [if_pos rfl]; exact wd1134), ⟨by decide, by decide, by decide +kernel⟩, by decide⟩, wd1133⟩
theorem kX0_29 : LkV RX0 29 mX0_clashes 4 := ⟨⟨wd1140, wd9, (by unfold yw; rw [if_pos rfl]; exact wd1123), ⟨by decide, by decide, by decide +kernel⟩, by decide⟩, wd1121, wd1122⟩
theorem kX0_33 : LkS RX0 33 mJ7_fill_53178 2 := ⟨⟨wd1128, wd3, (by unfold yw; rw [if_pos rfl]; exact wd47), ⟨by decide, by decide, by decide +kernel⟩, by decide⟩, wd46⟩
theorem kX0_47 : LkS RX0 47 mJ9_floorMod_7cf53 2 := ⟨⟨wd1129, wd19, (by unfold yw; rw [if_pos rfl]; exact wd1131), ⟨by decide, by decide, by decide +kernel⟩, by decide⟩, wd1130⟩
theorem kX0_67 : (Cond.initialized mX11_lowestBit.nm.cls ∈ GW ∧ yw mX11_lowestBit ∈ GW ∧ (mX11_lowestBit.nm.cls ≠ "java/lang/invoke/MethodHandle" ∧ mX11_lowestBit.nm.cls ≠ "java/lang/invoke/VarHandle" ∧ (parseMethodDescriptor mX11_lowestBit.nm.desc).map (fun d => d.parameters.length) = some 1) ∧ mX11_lowestBit.nL ≤ 41) ∧ Cond.static mX11_lowestBit.nm ∈ GW := ⟨⟨wd1, (by unfold yw; rw [if_pos rfl]; exact wd961), ⟨by decide, by decide, by decide +kernel⟩, by decide⟩, wd960⟩
theorem kX1_18 : LkS RX1 18 mJ7_fill_53178 2 := ⟨⟨wd1286, wd3, (by unfold yw; rw [if_pos rfl]; exact wd47), ⟨by decide, by decide, by decide +kernel⟩, by decide⟩, wd46⟩
theorem kX1_24 : LkV RX1 24 mX4_attend 4 := ⟨⟨wd1287, wd7, (by unfold yw; rw [if_pos rfl]; exact wd951), ⟨by decide, by decide, by decide +kernel⟩, by decide⟩, wd949, wd950⟩
theorem kX1_30 : LkV RX1 30 mX1_heardGaps 1 := ⟨⟨wd1288, wd13, (by unfold yw; rw [if_pos rfl]; exact wd1291), ⟨by decide, by decide, by decide +kernel⟩, by decide⟩, wd1290, v51⟩
theorem kX1_34 : LkV RX1 34 mX4_measure 1 := ⟨⟨wd1292, wd7, (by unfold yw; rw [if_pos rfl]; exact wd958), ⟨by decide, by decide, by decide +kernel⟩, by decide⟩, wd956, wd957⟩
theorem kX1_38 : LkV RX1 38 mX4_hears 1 := ⟨⟨wd1293, wd7, (by unfold yw; rw [if_pos rfl]; exact wd971), ⟨by decide, by decide, by decide +kernel⟩, by decide⟩, wd969, wd970⟩
theorem kX1_53 : LkV RX1 53 mX1_extend 2 := ⟨⟨wd1299, wd13, (by unfold yw; rw [if_pos rfl]; exact wd1302), ⟨by decide, by decide, by decide +kernel⟩, by decide⟩, wd1301, v52⟩
theorem kX1_57 : LkS RX1 57 mJ6_bitCount_0f7a4 1 := ⟨⟨wd1303, wd26, (by unfold yw; rw [if_pos rfl]; exact wd964), ⟨by decide, by decide, by decide +kernel⟩, by decide⟩, wd963⟩
theorem kX1_62 : LkV RX1 62 mX1_weigh 1 := ⟨⟨wd1304, wd13, (by unfold yw; rw [if_pos rfl]; exact wd1307), ⟨by decide, by decide, by decide +kernel⟩, by decide⟩, wd1306, v53⟩
theorem kX1_65 : (Cond.initialized mX11_lowestBit.nm.cls ∈ GW ∧ yw mX11_lowestBit ∈ GW ∧ (mX11_lowestBit.nm.cls ≠ "java/lang/invoke/MethodHandle" ∧ mX11_lowestBit.nm.cls ≠ "java/lang/invoke/VarHandle" ∧ (parseMethodDescriptor mX11_lowestBit.nm.desc).map (fun d => d.parameters.length) = some 1) ∧ mX11_lowestBit.nL ≤ 41) ∧ Cond.static mX11_lowestBit.nm ∈ GW := ⟨⟨wd1, (by unfold yw; rw [if_pos rfl]; exact wd961), ⟨by decide, by decide, by decide +kernel⟩, by decide⟩, wd960⟩
theorem kX2_79 : LkS RX2 79 mJ7_fill_53178 2 := ⟨⟨wd45, wd3, (by unfold yw; rw [if_pos rfl]; exact wd47), ⟨by decide, by decide, by decide +kernel⟩, by decide⟩, wd46⟩
theorem kX3_110 : LkV RX3 110 mX3_greatestGroup 2 := ⟨⟨wd1188, wd10, (by unfold yw; rw [if_pos rfl]; exact wd1191), ⟨by decide, by decide, by decide +kernel⟩, by decide⟩, wd1190, v44⟩
theorem kX3_38 : LkV RX3 38 mX7_prepareLike 3 := ⟨⟨wd1159, wd6, (by unfold yw; rw [if_pos rfl]; exact wd1162), ⟨by decide, by decide, by decide +kernel⟩, by decide⟩, wd1160, wd1161⟩
theorem kX3_42 : LkV RX3 42 mX3_searchAll 3 := ⟨⟨wd1163, wd10, (by unfold yw; rw [if_pos rfl]; exact wd1166), ⟨by decide, by decide, by decide +kernel⟩, by decide⟩, wd1165, v40⟩
theorem kX3_46 : LkV RX3 46 mX3_findNext 1 := ⟨⟨wd1184, wd10, (by unfold yw; rw [if_pos rfl]; exact wd1187), ⟨by decide, by decide, by decide +kernel⟩, by decide⟩, wd1186, v43⟩
theorem kX3_56 : LkV RX3 56 mX7_layDelays 3 := ⟨⟨wd1168, wd6, (by unfold yw; rw [if_pos rfl]; exact wd1171), ⟨by decide, by decide, by decide +kernel⟩, by decide⟩, wd1169, wd1170⟩
theorem kX3_60 : LkV RX3 60 mX3_firstMiss 3 := ⟨⟨wd1172, wd10, (by unfold yw; rw [if_pos rfl]; exact wd1175), ⟨by decide, by decide, by decide +kernel⟩, by decide⟩, wd1174, v41⟩
theorem kX3_67 : LkV RX3 67 mX3_take 2 := ⟨⟨wd1179, wd10, (by unfold yw; rw [if_pos rfl]; exact wd1182), ⟨by decide, by decide, by decide +kernel⟩, by decide⟩, wd1181, v42⟩
theorem kX3_76 : LkV RX3 76 mX4_attend 4 := ⟨⟨wd1176, wd7, (by unfold yw; rw [if_pos rfl]; exact wd951), ⟨by decide, by decide, by decide +kernel⟩, by decide⟩, wd949, wd950⟩
theorem kX3_82 : LkV RX3 82 mX4_measure 1 := ⟨⟨wd1177, wd7, (by unfold yw; rw [if_pos rfl]; exact wd958), ⟨by decide, by decide, by decide +kernel⟩, by decide⟩, wd956, wd957⟩
theorem kX3_86 : LkV RX3 86 mX4_hears 1 := ⟨⟨wd1178, wd7, (by unfold yw; rw [if_pos rfl]; exact wd971), ⟨by decide, by decide, by decide +kernel⟩, by decide⟩, wd969, wd970⟩
theorem kX3_93 : LkS RX3 93 mJ6_bitCount_0f7a4 1 := ⟨⟨wd1183, wd26, (by unfold yw; rw [if_pos rfl]; exact wd964), ⟨by decide, by decide, by decide +kernel⟩, by decide⟩, wd963⟩
theorem kX4_50 : (Cond.initialized mX11_lowestBit.nm.cls ∈ GW ∧ yw mX11_lowestBit ∈ GW ∧ (mX11_lowestBit.nm.cls ≠ "java/lang/invoke/MethodHandle" ∧ mX11_lowestBit.nm.cls ≠ "java/lang/invoke/VarHandle" ∧ (parseMethodDescriptor mX11_lowestBit.nm.desc).map (fun d => d.parameters.length) = some 1) ∧ mX11_lowestBit.nL ≤ 41) ∧ Cond.static mX11_lowestBit.nm ∈ GW := ⟨⟨wd1, (by unfold yw; rw [if_pos rfl]; exact wd961), ⟨by decide, by decide, by decide +kernel⟩, by decide⟩, wd960⟩
theorem kX5_32 : LkV RX5 32 mX5_ticksTo 4 := ⟨⟨wd1243, wd12, (by unfold yw; rw [if_pos rfl]; exact wd1246), ⟨by decide, by decide, by decide +kernel⟩, by decide⟩, wd1245, v49⟩
theorem kX5_36 : LkV RX5 36 mX5_matches 5 := ⟨⟨wd1239, wd12, (by unfold yw; rw [if_pos rfl]; exact wd1242), ⟨by decide, by decide, by decide +kernel⟩, by decide⟩, wd1241, v48⟩
theorem kX5_40 : LkV RX5 40 mX5_chartedNear 3 := ⟨⟨wd1269, wd12, (by unfold yw; rw [if_pos rfl]; exact wd1272), ⟨by decide, by decide, by decide +kernel⟩, by decide⟩, wd1271, v50⟩
theorem kX6_103 : LkV RX6 103 mX6_readSound 0 := ⟨⟨wd774, wd5, (by unfold yw; rw [if_pos rfl]; exact wd777), ⟨by decide, by decide, by decide +kernel⟩, by decide⟩, wd776, v5⟩
theorem kX6_108 : LkV RX6 108 mX6_readWall 0 := ⟨⟨wd791, wd5, (by unfold yw; rw [if_pos rfl]; exact wd794), ⟨by decide, by decide, by decide +kernel⟩, by decide⟩, wd793, v9⟩
theorem kX6_113 : LkV RX6 113 mX6_readStraight 0 := ⟨⟨wd806, wd5, (by unfold yw; rw [if_pos rfl]; exact wd809), ⟨by decide, by decide, by decide +kernel⟩, by decide⟩, wd808, v12⟩
theorem kX6_118 : LkV RX6 118 mX6_readAir 0 := ⟨⟨wd811, wd5, (by unfold yw; rw [if_pos rfl]; exact wd814), ⟨by decide, by decide, by decide +kernel⟩, by decide⟩, wd813, v13⟩
theorem kX6_123 : LkV RX6 123 mX6_readMask 0 := ⟨⟨wd816, wd5, (by unfold yw; rw [if_pos rfl]; exact wd819), ⟨by decide, by decide, by decide +kernel⟩, by decide⟩, wd818, v14⟩
theorem kX6_128 : LkV RX6 128 mX6_readSweet 0 := ⟨⟨wd821, wd5, (by unfold yw; rw [if_pos rfl]; exact wd824), ⟨by decide, by decide, by decide +kernel⟩, by decide⟩, wd823, v15⟩
theorem kX6_133 : LkV RX6 133 mX6_readWord 0 := ⟨⟨wd830, wd5, (by unfold yw; rw [if_pos rfl]; exact wd833), ⟨by decide, by decide, by decide +kernel⟩, by decide⟩, wd832, v17⟩
theorem kX6_138 : LkV RX6 138 mX6_readForm 0 := ⟨⟨wd835, wd5, (by unfold yw; rw [if_pos rfl]; exact wd838), ⟨by decide, by decide, by decide +kernel⟩, by decide⟩, wd837, v18⟩
theorem kX6_148 : LkV RX6 148 mX6_readEnd 0 := ⟨⟨wd786, wd5, (by unfold yw; rw [if_pos rfl]; exact wd789), ⟨by decide, by decide, by decide +kernel⟩, by decide⟩, wd788, v8⟩
theorem kX6_167 : LkV RX6 167 mX6_readSwallows 1 := ⟨⟨wd796, wd5, (by unfold yw; rw [if_pos rfl]; exact wd799), ⟨by decide, by decide, by decide +kernel⟩, by decide⟩, wd798, v10⟩
theorem kX6_171 : LkV RX6 171 mX6_readAgain 1 := ⟨⟨wd801, wd5, (by unfold yw; rw [if_pos rfl]; exact wd804), ⟨by decide, by decide, by decide +kernel⟩, by decide⟩, wd803, v11⟩
theorem kX6_187 : LkV RX6 187 mX6_isToldSound 0 := ⟨⟨wd825, wd5, (by unfold yw; rw [if_pos rfl]; exact wd828), ⟨by decide, by decide, by decide +kernel⟩, by decide⟩, wd827, v16⟩
theorem kX6_29 : LkV RX6 29 mX2_clear 0 := ⟨⟨wd706, wd2, (by unfold yw; rw [if_pos rfl]; exact wd44), ⟨by decide, by decide, by decide +kernel⟩, by decide⟩, wd42, wd43⟩
theorem kX6_53 : LkV RX6 53 mX6_step 0 := ⟨⟨wd707, wd5, (by unfold yw; rw [if_pos rfl]; exact wd710), ⟨by decide, by decide, by decide +kernel⟩, by decide⟩, wd709, v2⟩
theorem kX6_59 : LkV RX6 59 mX6_readLine 0 := ⟨⟨wd717, wd5, (by unfold yw; rw [if_pos rfl]; exact wd720), ⟨by decide, by decide, by decide +kernel⟩, by decide⟩, wd719, v3⟩
theorem kX6_69 : LkS RX6 69 mX6_isLetter 1 := ⟨⟨wd711, wd5, (by unfold yw; rw [if_pos rfl]; exact wd713), ⟨by decide, by decide, by decide +kernel⟩, by decide⟩, wd712⟩
theorem kX6_73 : LkS RX6 73 mX6_isDigit 1 := ⟨⟨wd714, wd5, (by unfold yw; rw [if_pos rfl]; exact wd716), ⟨by decide, by decide, by decide +kernel⟩, by decide⟩, wd715⟩
theorem kX6_86 : LkV RX6 86 mX6_fail 1 := ⟨⟨wd778, wd5, (by unfold yw; rw [if_pos rfl]; exact wd781), ⟨by decide, by decide, by decide +kernel⟩, by decide⟩, wd780, v6⟩
theorem kX6_90 : LkV RX6 90 mX6_isNumber 2 := ⟨⟨wd782, wd5, (by unfold yw; rw [if_pos rfl]; exact wd785), ⟨by decide, by decide, by decide +kernel⟩, by decide⟩, wd784, v7⟩
theorem kX6_99 : LkV RX6 99 mX6_spells 1 := ⟨⟨wd722, wd5, (by unfold yw; rw [if_pos rfl]; exact wd725), ⟨by decide, by decide, by decide +kernel⟩, by decide⟩, wd724, v4⟩
theorem kX7_46 : LkV RX7 46 mX7_place 1 := ⟨⟨wd931, wd6, (by unfold yw; rw [if_pos rfl]; exact wd934), ⟨by decide, by decide, by decide +kernel⟩, by decide⟩, wd933, v25⟩
theorem kX7_63 : LkV RX7 63 mX7_addWall 2 := ⟨⟨wd936, wd6, (by unfold yw; rw [if_pos rfl]; exact wd939), ⟨by decide, by decide, by decide +kernel⟩, by decide⟩, wd938, v26⟩
theorem kX7_67 : LkV RX7 67 mX2_foggedShare 2 := ⟨⟨wd940, wd2, (by unfold yw; rw [if_pos rfl]; exact wd943), ⟨by decide, by decide, by decide +kernel⟩, by decide⟩, wd941, wd942⟩
theorem kX7_77 : LkV RX7 77 mX2_swallowsSound 2 := ⟨⟨wd944, wd2, (by unfold yw; rw [if_pos rfl]; exact wd947), ⟨by decide, by decide, by decide +kernel⟩, by decide⟩, wd945, wd946⟩
theorem kX8_30 : LkV RX8 30 mX8_clearSaid 0 := ⟨⟨wd186, wd4, (by unfold yw; rw [if_pos rfl]; exact wd189), ⟨by decide, by decide, by decide +kernel⟩, by decide⟩, wd187, wd188⟩
theorem kX8_33 : LkV RX8 33 mX8_clearTold 0 := ⟨⟨wd191, wd4, (by unfold yw; rw [if_pos rfl]; exact wd194), ⟨by decide, by decide, by decide +kernel⟩, by decide⟩, wd192, wd193⟩
theorem kX8_36 : LkS RX8 36 mJ7_fill_53178 2 := ⟨⟨wd190, wd3, (by unfold yw; rw [if_pos rfl]; exact wd47), ⟨by decide, by decide, by decide +kernel⟩, by decide⟩, wd46⟩
theorem kX9_41 : LkS RX9 41 mJ7_fill_53178 2 := ⟨⟨wd1203, wd3, (by unfold yw; rw [if_pos rfl]; exact wd47), ⟨by decide, by decide, by decide +kernel⟩, by decide⟩, wd46⟩
theorem kX9_56 : LkV RX9 56 mX9_isHeardAsTold 3 := ⟨⟨wd1204, wd11, (by unfold yw; rw [if_pos rfl]; exact wd1207), ⟨by decide, by decide, by decide +kernel⟩, by decide⟩, wd1206, v45⟩
theorem kX9_60 : LkV RX9 60 mX9_search 3 := ⟨⟨wd1211, wd11, (by unfold yw; rw [if_pos rfl]; exact wd1214), ⟨by decide, by decide, by decide +kernel⟩, by decide⟩, wd1213, v46⟩
theorem kX9_64 : LkV RX9 64 mX9_take 1 := ⟨⟨wd1215, wd11, (by unfold yw; rw [if_pos rfl]; exact wd1218), ⟨by decide, by decide, by decide +kernel⟩, by decide⟩, wd1217, v47⟩
theorem kX9_74 : LkV RX9 74 mX4_attend 4 := ⟨⟨wd1208, wd7, (by unfold yw; rw [if_pos rfl]; exact wd951), ⟨by decide, by decide, by decide +kernel⟩, by decide⟩, wd949, wd950⟩
theorem kX9_80 : LkV RX9 80 mX4_measure 1 := ⟨⟨wd1209, wd7, (by unfold yw; rw [if_pos rfl]; exact wd958), ⟨by decide, by decide, by decide +kernel⟩, by decide⟩, wd956, wd957⟩
theorem kX9_83 : LkV RX9 83 mX4_hears 1 := ⟨⟨wd1210, wd7, (by unfold yw; rw [if_pos rfl]; exact wd971), ⟨by decide, by decide, by decide +kernel⟩, by decide⟩, wd969, wd970⟩
theorem kX9_87 : LkS RX9 87 mJ6_bitCount_0f7a4 1 := ⟨⟨wd1219, wd26, (by unfold yw; rw [if_pos rfl]; exact wd964), ⟨by decide, by decide, by decide +kernel⟩, by decide⟩, wd963⟩
theorem kX10_101 : LkV RX10 101 mX4_attend 4 := ⟨⟨wd1009, wd7, (by unfold yw; rw [if_pos rfl]; exact wd951), ⟨by decide, by decide, by decide +kernel⟩, by decide⟩, wd949, wd950⟩
theorem kX10_107 : LkV RX10 107 mX7_longest 0 := ⟨⟨wd1010, wd6, (by unfold yw; rw [if_pos rfl]; exact wd1013), ⟨by decide, by decide, by decide +kernel⟩, by decide⟩, wd1011, wd1012⟩
theorem kX10_112 : LkV RX10 112 mX4_measure 1 := ⟨⟨wd1014, wd7, (by unfold yw; rw [if_pos rfl]; exact wd958), ⟨by decide, by decide, by decide +kernel⟩, by decide⟩, wd956, wd957⟩
theorem kX10_115 : LkV RX10 115 mX4_hears 1 := ⟨⟨wd1015, wd7, (by unfold yw; rw [if_pos rfl]; exact wd971), ⟨by decide, by decide, by decide +kernel⟩, by decide⟩, wd969, wd970⟩
theorem kX10_119 : LkV RX10 119 mX10_fittingPlaces 1 := ⟨⟨wd1032, wd8, (by unfold yw; rw [if_pos rfl]; exact wd1035), ⟨by decide, by decide, by decide +kernel⟩, by decide⟩, wd1034, v34⟩
theorem kX10_122 : LkV RX10 122 mX10_layKind 2 := ⟨⟨wd1036, wd8, (by unfold yw; rw [if_pos rfl]; exact wd1039), ⟨by decide, by decide, by decide +kernel⟩, by decide⟩, wd1038, v35⟩
theorem kX10_125 : LkV RX10 125 mX10_fitsAt 2 := ⟨⟨wd1024, wd8, (by unfold yw; rw [if_pos rfl]; exact wd1027), ⟨by decide, by decide, by decide +kernel⟩, by decide⟩, wd1026, v32⟩
theorem kX10_132 : LkV RX10 132 mX7_build 5 := ⟨⟨wd995, wd6, (by unfold yw; rw [if_pos rfl]; exact wd930), ⟨by decide, by decide, by decide +kernel⟩, by decide⟩, wd928, wd929⟩
theorem kX10_136 : LkV RX10 136 mX10_surveyForm 5 := ⟨⟨wd996, wd8, (by unfold yw; rw [if_pos rfl]; exact wd999), ⟨by decide, by decide, by decide +kernel⟩, by decide⟩, wd998, v27⟩
theorem kX10_140 : LkV RX10 140 mX10_spell 2 := ⟨⟨wd1001, wd8, (by unfold yw; rw [if_pos rfl]; exact wd1004), ⟨by decide, by decide, by decide +kernel⟩, by decide⟩, wd1003, v28⟩
theorem kX10_144 : LkV RX10 144 mX10_listen 2 := ⟨⟨wd1005, wd8, (by unfold yw; rw [if_pos rfl]; exact wd1008), ⟨by decide, by decide, by decide +kernel⟩, by decide⟩, wd1007, v29⟩
theorem kX10_148 : LkV RX10 148 mX10_weigh 3 := ⟨⟨wd1016, wd8, (by unfold yw; rw [if_pos rfl]; exact wd1019), ⟨by decide, by decide, by decide +kernel⟩, by decide⟩, wd1018, v30⟩
theorem kX10_152 : LkV RX10 152 mX10_isEchoed 1 := ⟨⟨wd1020, wd8, (by unfold yw; rw [if_pos rfl]; exact wd1023), ⟨by decide, by decide, by decide +kernel⟩, by decide⟩, wd1022, v31⟩
theorem kX10_156 : LkV RX10 156 mX10_isLine 0 := ⟨⟨wd1028, wd8, (by unfold yw; rw [if_pos rfl]; exact wd1031), ⟨by decide, by decide, by decide +kernel⟩, by decide⟩, wd1030, v33⟩
theorem kX10_160 : LkV RX10 160 mX10_answersNow 2 := ⟨⟨wd1055, wd8, (by unfold yw; rw [if_pos rfl]; exact wd1058), ⟨by decide, by decide, by decide +kernel⟩, by decide⟩, wd1057, v36⟩
theorem kX10_163 : LkV RX10 163 mX10_searchFog 3 := ⟨⟨wd1092, wd8, (by unfold yw; rw [if_pos rfl]; exact wd1095), ⟨by decide, by decide, by decide +kernel⟩, by decide⟩, wd1094, v37⟩
theorem kX10_167 : LkV RX10 167 mX10_changesShares 1 := ⟨⟨wd1096, wd8, (by unfold yw; rw [if_pos rfl]; exact wd1099), ⟨by decide, by decide, by decide +kernel⟩, by decide⟩, wd1098, v38⟩
theorem kX10_173 : LkV RX10 173 mX7_canReach 1 := ⟨⟨wd1101, wd6, (by unfold yw; rw [if_pos rfl]; exact wd1104), ⟨by decide, by decide, by decide +kernel⟩, by decide⟩, wd1102, wd1103⟩
theorem kX10_176 : LkV RX10 176 mX10_countStill 4 := ⟨⟨wd1105, wd8, (by unfold yw; rw [if_pos rfl]; exact wd1073), ⟨by decide, by decide, by decide +kernel⟩, by decide⟩, wd1071, wd1072⟩
theorem kX10_183 : LkV RX10 183 mX2_foggedShare 2 := ⟨⟨wd1100, wd2, (by unfold yw; rw [if_pos rfl]; exact wd943), ⟨by decide, by decide, by decide +kernel⟩, by decide⟩, wd941, wd942⟩
theorem kX10_46 : LkS RX10 46 mJ7_fill_53178 2 := ⟨⟨wd362, wd3, (by unfold yw; rw [if_pos rfl]; exact wd47), ⟨by decide, by decide, by decide +kernel⟩, by decide⟩, wd46⟩
theorem kX10_71 : LkV RX10 71 mX10_measureForm 1 := ⟨⟨wd848, wd8, (by unfold yw; rw [if_pos rfl]; exact wd851), ⟨by decide, by decide, by decide +kernel⟩, by decide⟩, wd850, v19⟩
theorem kX11_111 : LkV RX11 111 mX11_tapeNumber 1 := ⟨⟨wd588, wd1, (by unfold yw; rw [if_pos rfl]; exact wd591), ⟨by decide, by decide, by decide +kernel⟩, by decide⟩, wd590, v0⟩
theorem kX11_118 : LkV RX11 118 mX6_read 3 := ⟨⟨wd699, wd5, (by unfold yw; rw [if_pos rfl]; exact wd702), ⟨by decide, by decide, by decide +kernel⟩, by decide⟩, wd700, wd701⟩
theorem kX11_123 : LkV RX11 123 mX8_clear 0 := ⟨⟨wd839, wd4, (by unfold yw; rw [if_pos rfl]; exact wd185), ⟨by decide, by decide, by decide +kernel⟩, by decide⟩, wd183, wd184⟩
theorem kX11_126 : LkV RX11 126 mX7_forget 0 := ⟨⟨wd840, wd6, (by unfold yw; rw [if_pos rfl]; exact wd843), ⟨by decide, by decide, by decide +kernel⟩, by decide⟩, wd841, wd842⟩
theorem kX11_129 : LkV RX11 129 mX10_adopt 1 := ⟨⟨wd844, wd8, (by unfold yw; rw [if_pos rfl]; exact wd847), ⟨by decide, by decide, by decide +kernel⟩, by decide⟩, wd845, wd846⟩
theorem kX11_133 : LkV RX11 133 mX3_forget 0 := ⟨⟨wd601, wd10, (by unfold yw; rw [if_pos rfl]; exact wd604), ⟨by decide, by decide, by decide +kernel⟩, by decide⟩, wd602, wd603⟩
theorem kX11_134 : LkV RX11 134 mX9_forget 0 := ⟨⟨wd610, wd11, (by unfold yw; rw [if_pos rfl]; exact wd613), ⟨by decide, by decide, by decide +kernel⟩, by decide⟩, wd611, wd612⟩
theorem kX11_159 : LkV RX11 159 mX11_needWall 1 := ⟨⟨wd882, wd1, (by unfold yw; rw [if_pos rfl]; exact wd885), ⟨by decide, by decide, by decide +kernel⟩, by decide⟩, wd884, v20⟩
theorem kX11_183 : LkV RX11 183 mX11_needSound 1 := ⟨⟨wd900, wd1, (by unfold yw; rw [if_pos rfl]; exact wd903), ⟨by decide, by decide, by decide +kernel⟩, by decide⟩, wd902, v21⟩
theorem kX11_186 : LkV RX11 186 mX8_addSaid 2 := ⟨⟨wd904, wd4, (by unfold yw; rw [if_pos rfl]; exact wd907), ⟨by decide, by decide, by decide +kernel⟩, by decide⟩, wd905, wd906⟩
theorem kX11_190 : LkV RX11 190 mX8_clearSaid 0 := ⟨⟨wd600, wd4, (by unfold yw; rw [if_pos rfl]; exact wd189), ⟨by decide, by decide, by decide +kernel⟩, by decide⟩, wd187, wd188⟩
theorem kX11_193 : LkV RX11 193 mX11_needMoment 3 := ⟨⟨wd915, wd1, (by unfold yw; rw [if_pos rfl]; exact wd918), ⟨by decide, by decide, by decide +kernel⟩, by decide⟩, wd917, v22⟩
theorem kX11_200 : LkV RX11 200 mX7_build 5 := ⟨⟨wd927, wd6, (by unfold yw; rw [if_pos rfl]; exact wd930), ⟨by decide, by decide, by decide +kernel⟩, by decide⟩, wd928, wd929⟩
theorem kX11_207 : LkV RX11 207 mX4_attend 4 := ⟨⟨wd948, wd7, (by unfold yw; rw [if_pos rfl]; exact wd951), ⟨by decide, by decide, by decide +kernel⟩, by decide⟩, wd949, wd950⟩
theorem kX11_220 : LkV RX11 220 mX4_measure 1 := ⟨⟨wd955, wd7, (by unfold yw; rw [if_pos rfl]; exact wd958), ⟨by decide, by decide, by decide +kernel⟩, by decide⟩, wd956, wd957⟩
theorem kX11_223 : LkV RX11 223 mX4_hears 1 := ⟨⟨wd968, wd7, (by unfold yw; rw [if_pos rfl]; exact wd971), ⟨by decide, by decide, by decide +kernel⟩, by decide⟩, wd969, wd970⟩
theorem kX11_227 : LkV RX11 227 mX4_loudness 2 := ⟨⟨wd980, wd7, (by unfold yw; rw [if_pos rfl]; exact wd983), ⟨by decide, by decide, by decide +kernel⟩, by decide⟩, wd981, wd982⟩
theorem kX11_230 : LkV RX11 230 mX11_needHour 1 := ⟨⟨wd923, wd1, (by unfold yw; rw [if_pos rfl]; exact wd926), ⟨by decide, by decide, by decide +kernel⟩, by decide⟩, wd925, v24⟩
theorem kX11_236 : LkV RX11 236 mX10_survey 3 := ⟨⟨wd991, wd8, (by unfold yw; rw [if_pos rfl]; exact wd994), ⟨by decide, by decide, by decide +kernel⟩, by decide⟩, wd992, wd993⟩
theorem kX11_240 : LkV RX11 240 mX10_figure 2 := ⟨⟨wd1040, wd8, (by unfold yw; rw [if_pos rfl]; exact wd1043), ⟨by decide, by decide, by decide +kernel⟩, by decide⟩, wd1041, wd1042⟩
theorem kX11_243 : LkV RX11 243 mX10_answering 2 := ⟨⟨wd1051, wd8, (by unfold yw; rw [if_pos rfl]; exact wd1054), ⟨by decide, by decide, by decide +kernel⟩, by decide⟩, wd1052, wd1053⟩
theorem kX11_246 : LkV RX11 246 mX10_partOf 2 := ⟨⟨wd1059, wd8, (by unfold yw; rw [if_pos rfl]; exact wd1062), ⟨by decide, by decide, by decide +kernel⟩, by decide⟩, wd1060, wd1061⟩
theorem kX11_249 : LkV RX11 249 mX10_countStill 4 := ⟨⟨wd1070, wd8, (by unfold yw; rw [if_pos rfl]; exact wd1073), ⟨by decide, by decide, by decide +kernel⟩, by decide⟩, wd1071, wd1072⟩
theorem kX11_253 : LkV RX11 253 mX10_thickestFog 3 := ⟨⟨wd1088, wd8, (by unfold yw; rw [if_pos rfl]; exact wd1091), ⟨by decide, by decide, by decide +kernel⟩, by decide⟩, wd1089, wd1090⟩
theorem kX11_262 : LkV RX11 262 mX0_clashes 4 := ⟨⟨wd1120, wd9, (by unfold yw; rw [if_pos rfl]; exact wd1123), ⟨by decide, by decide, by decide +kernel⟩, by decide⟩, wd1121, wd1122⟩
theorem kX11_266 : LkV RX11 266 mX0_rests 3 := ⟨⟨wd1136, wd9, (by unfold yw; rw [if_pos rfl]; exact wd1139), ⟨by decide, by decide, by decide +kernel⟩, by decide⟩, wd1137, wd1138⟩
theorem kX11_273 : LkV RX11 273 mX8_clearTold 0 := ⟨⟨wd609, wd4, (by unfold yw; rw [if_pos rfl]; exact wd194), ⟨by decide, by decide, by decide +kernel⟩, by decide⟩, wd192, wd193⟩
theorem kX11_276 : LkV RX11 276 mX3_find 4 := ⟨⟨wd1155, wd10, (by unfold yw; rw [if_pos rfl]; exact wd1158), ⟨by decide, by decide, by decide +kernel⟩, by decide⟩, wd1156, wd1157⟩
theorem kX11_283 : LkV RX11 283 mX9_find 4 := ⟨⟨wd1199, wd11, (by unfold yw; rw [if_pos rfl]; exact wd1202), ⟨by decide, by decide, by decide +kernel⟩, by decide⟩, wd1200, wd1201⟩
theorem kX11_287 : LkV RX11 287 mX11_needEar 1 := ⟨⟨wd919, wd1, (by unfold yw; rw [if_pos rfl]; exact wd922), ⟨by decide, by decide, by decide +kernel⟩, by decide⟩, wd921, v23⟩
theorem kX11_296 : LkV RX11 296 mX5_countMatching 3 := ⟨⟨wd1235, wd12, (by unfold yw; rw [if_pos rfl]; exact wd1238), ⟨by decide, by decide, by decide +kernel⟩, by decide⟩, wd1236, wd1237⟩
theorem kX11_300 : LkV RX11 300 mX5_findMatching 4 := ⟨⟨wd1250, wd12, (by unfold yw; rw [if_pos rfl]; exact wd1253), ⟨by decide, by decide, by decide +kernel⟩, by decide⟩, wd1251, wd1252⟩
theorem kX11_304 : LkV RX11 304 mX5_chart 3 := ⟨⟨wd1261, wd12, (by unfold yw; rw [if_pos rfl]; exact wd1264), ⟨by decide, by decide, by decide +kernel⟩, by decide⟩, wd1262, wd1263⟩
theorem kX11_308 : LkV RX11 308 mX5_countCouples 4 := ⟨⟨wd1265, wd12, (by unfold yw; rw [if_pos rfl]; exact wd1268), ⟨by decide, by decide, by decide +kernel⟩, by decide⟩, wd1266, wd1267⟩
theorem kX11_311 : LkV RX11 311 mX1_compare 4 := ⟨⟨wd1282, wd13, (by unfold yw; rw [if_pos rfl]; exact wd1285), ⟨by decide, by decide, by decide +kernel⟩, by decide⟩, wd1283, wd1284⟩
theorem kX11_318 : LkV RX11 318 mX1_choose 0 := ⟨⟨wd1294, wd13, (by unfold yw; rw [if_pos rfl]; exact wd1297), ⟨by decide, by decide, by decide +kernel⟩, by decide⟩, wd1295, wd1296⟩
theorem kX11_322 : LkS RX11 322 mJ6_bitCount_0f7a4 1 := ⟨⟨wd962, wd26, (by unfold yw; rw [if_pos rfl]; exact wd964), ⟨by decide, by decide, by decide +kernel⟩, by decide⟩, wd963⟩
theorem kX11_327 : LkV RX11 327 mX8_copy 1 := ⟨⟨wd618, wd4, (by unfold yw; rw [if_pos rfl]; exact wd621), ⟨by decide, by decide, by decide +kernel⟩, by decide⟩, wd619, wd620⟩
theorem kL_100 : LkV RL 100 mX11_fault 0 := ⟨⟨wd592, wd1, (by unfold yw; rw [if_pos rfl]; exact wd595), ⟨by decide, by decide, by decide +kernel⟩, by decide⟩, wd593, wd594⟩
theorem kL_103 : LkV RL 103 mX12_fault 0 := ⟨⟨wd1671, wd14, (by unfold yw; rw [if_pos rfl]; exact wd1674), ⟨by decide, by decide, by decide +kernel⟩, by decide⟩, wd1672, wd1673⟩
theorem kL_104 : LkS RL 104 mL_count 3 := ⟨⟨wd852, wd0, (by unfold yw; rw [if_neg (by decide)]; exact wd854), ⟨by decide, by decide, by decide +kernel⟩, by decide⟩, wd853⟩
theorem kL_106 : LkV RL 106 mX12_count 1 := ⟨⟨wd1675, wd14, (by unfold yw; rw [if_pos rfl]; exact wd1678), ⟨by decide, by decide, by decide +kernel⟩, by decide⟩, wd1676, wd1677⟩
theorem kL_107 : LkS RL 107 mL_wall 4 := ⟨⟨wd875, wd0, (by unfold yw; rw [if_neg (by decide)]; exact wd877), ⟨by decide, by decide, by decide +kernel⟩, by decide⟩, wd876⟩
theorem kL_110 : LkV RL 110 mX12_wall 2 := ⟨⟨wd1698, wd14, (by unfold yw; rw [if_pos rfl]; exact wd1701), ⟨by decide, by decide, by decide +kernel⟩, by decide⟩, wd1699, wd1700⟩
theorem kL_111 : LkS RL 111 mL_word 4 := ⟨⟨wd886, wd0, (by unfold yw; rw [if_neg (by decide)]; exact wd888), ⟨by decide, by decide, by decide +kernel⟩, by decide⟩, wd887⟩
theorem kL_113 : LkV RL 113 mX12_word 2 := ⟨⟨wd1702, wd14, (by unfold yw; rw [if_pos rfl]; exact wd1705), ⟨by decide, by decide, by decide +kernel⟩, by decide⟩, wd1703, wd1704⟩
theorem kL_114 : LkS RL 114 mL_say 4 := ⟨⟨wd893, wd0, (by unfold yw; rw [if_neg (by decide)]; exact wd895), ⟨by decide, by decide, by decide +kernel⟩, by decide⟩, wd894⟩
theorem kL_116 : LkV RL 116 mX12_say 2 := ⟨⟨wd1706, wd14, (by unfold yw; rw [if_pos rfl]; exact wd1709), ⟨by decide, by decide, by decide +kernel⟩, by decide⟩, wd1707, wd1708⟩
theorem kL_117 : LkV RL 117 mX11_hush 0 := ⟨⟨wd596, wd1, (by unfold yw; rw [if_pos rfl]; exact wd599), ⟨by decide, by decide, by decide +kernel⟩, by decide⟩, wd597, wd598⟩
theorem kL_120 : LkV RL 120 mX12_hush 0 := ⟨⟨wd1714, wd14, (by unfold yw; rw [if_pos rfl]; exact wd1717), ⟨by decide, by decide, by decide +kernel⟩, by decide⟩, wd1715, wd1716⟩
theorem kL_121 : LkS RL 121 mL_heard 5 := ⟨⟨wd908, wd0, (by unfold yw; rw [if_neg (by decide)]; exact wd910), ⟨by decide, by decide, by decide +kernel⟩, by decide⟩, wd909⟩
theorem kL_124 : LkV RL 124 mX12_heard 3 := ⟨⟨wd1718, wd14, (by unfold yw; rw [if_pos rfl]; exact wd1721), ⟨by decide, by decide, by decide +kernel⟩, by decide⟩, wd1719, wd1720⟩
theorem kL_125 : LkS RL 125 mL_loud 6 := ⟨⟨wd973, wd0, (by unfold yw; rw [if_neg (by decide)]; exact wd975), ⟨by decide, by decide, by decide +kernel⟩, by decide⟩, wd974⟩
theorem kL_128 : LkV RL 128 mX12_loud 4 := ⟨⟨wd1746, wd14, (by unfold yw; rw [if_pos rfl]; exact wd1749), ⟨by decide, by decide, by decide +kernel⟩, by decide⟩, wd1747, wd1748⟩
theorem kL_129 : LkS RL 129 mL_lines 4 := ⟨⟨wd984, wd0, (by unfold yw; rw [if_neg (by decide)]; exact wd986), ⟨by decide, by decide, by decide +kernel⟩, by decide⟩, wd985⟩
theorem kL_131 : LkV RL 131 mX12_lines 2 := ⟨⟨wd1750, wd14, (by unfold yw; rw [if_pos rfl]; exact wd1753), ⟨by decide, by decide, by decide +kernel⟩, by decide⟩, wd1751, wd1752⟩
theorem kL_132 : LkS RL 132 mL_line 5 := ⟨⟨wd1044, wd0, (by unfold yw; rw [if_neg (by decide)]; exact wd1046), ⟨by decide, by decide, by decide +kernel⟩, by decide⟩, wd1045⟩
theorem kL_134 : LkV RL 134 mX12_line_ 3 := ⟨⟨wd1805, wd14, (by unfold yw; rw [if_pos rfl]; exact wd1808), ⟨by decide, by decide, by decide +kernel⟩, by decide⟩, wd1806, wd1807⟩
theorem kL_135 : LkS RL 135 mL_still 4 := ⟨⟨wd1063, wd0, (by unfold yw; rw [if_neg (by decide)]; exact wd1065), ⟨by decide, by decide, by decide +kernel⟩, by decide⟩, wd1064⟩
theorem kL_137 : LkV RL 137 mX12_still 2 := ⟨⟨wd1809, wd14, (by unfold yw; rw [if_pos rfl]; exact wd1812), ⟨by decide, by decide, by decide +kernel⟩, by decide⟩, wd1810, wd1811⟩
theorem kL_138 : LkS RL 138 mL_without 4 := ⟨⟨wd1074, wd0, (by unfold yw; rw [if_neg (by decide)]; exact wd1076), ⟨by decide, by decide, by decide +kernel⟩, by decide⟩, wd1075⟩
theorem kL_140 : LkV RL 140 mX12_without 2 := ⟨⟨wd1817, wd14, (by unfold yw; rw [if_pos rfl]; exact wd1820), ⟨by decide, by decide, by decide +kernel⟩, by decide⟩, wd1818, wd1819⟩
theorem kL_141 : LkS RL 141 mL_lasts 3 := ⟨⟨wd1081, wd0, (by unfold yw; rw [if_neg (by decide)]; exact wd1083), ⟨by decide, by decide, by decide +kernel⟩, by decide⟩, wd1082⟩
theorem kL_143 : LkV RL 143 mX12_lasts 1 := ⟨⟨wd1821, wd14, (by unfold yw; rw [if_pos rfl]; exact wd1824), ⟨by decide, by decide, by decide +kernel⟩, by decide⟩, wd1822, wd1823⟩
theorem kL_144 : LkS RL 144 mL_sing 4 := ⟨⟨wd1106, wd0, (by unfold yw; rw [if_neg (by decide)]; exact wd1108), ⟨by decide, by decide, by decide +kernel⟩, by decide⟩, wd1107⟩
theorem kL_146 : LkV RL 146 mX12_sing 2 := ⟨⟨wd1825, wd14, (by unfold yw; rw [if_pos rfl]; exact wd1828), ⟨by decide, by decide, by decide +kernel⟩, by decide⟩, wd1826, wd1827⟩
theorem kL_147 : LkS RL 147 mL_round 3 := ⟨⟨wd1113, wd0, (by unfold yw; rw [if_neg (by decide)]; exact wd1115), ⟨by decide, by decide, by decide +kernel⟩, by decide⟩, wd1114⟩
theorem kL_149 : LkV RL 149 mX12_round 1 := ⟨⟨wd1829, wd14, (by unfold yw; rw [if_pos rfl]; exact wd1832), ⟨by decide, by decide, by decide +kernel⟩, by decide⟩, wd1830, wd1831⟩
theorem kL_15 : LkV RL 15 mX11_count 1 := ⟨⟨wd856, wd1, (by unfold yw; rw [if_pos rfl]; exact wd859), ⟨by decide, by decide, by decide +kernel⟩, by decide⟩, wd857, wd858⟩
theorem kL_150 : LkS RL 150 mL_tell 3 := ⟨⟨wd1141, wd0, (by unfold yw; rw [if_neg (by decide)]; exact wd1143), ⟨by decide, by decide, by decide +kernel⟩, by decide⟩, wd1142⟩
theorem kL_152 : LkV RL 152 mX12_tell 1 := ⟨⟨wd1837, wd14, (by unfold yw; rw [if_pos rfl]; exact wd1840), ⟨by decide, by decide, by decide +kernel⟩, by decide⟩, wd1838, wd1839⟩
theorem kL_153 : LkV RL 153 mX11_untell 0 := ⟨⟨wd605, wd1, (by unfold yw; rw [if_pos rfl]; exact wd608), ⟨by decide, by decide, by decide +kernel⟩, by decide⟩, wd606, wd607⟩
theorem kL_156 : LkV RL 156 mX12_untell 0 := ⟨⟨wd1841, wd14, (by unfold yw; rw [if_pos rfl]; exact wd1844), ⟨by decide, by decide, by decide +kernel⟩, by decide⟩, wd1842, wd1843⟩
theorem kL_157 : LkS RL 157 mL_rivals 4 := ⟨⟨wd1148, wd0, (by unfold yw; rw [if_neg (by decide)]; exact wd1150), ⟨by decide, by decide, by decide +kernel⟩, by decide⟩, wd1149⟩
theorem kL_159 : LkV RL 159 mX12_rivals 2 := ⟨⟨wd1845, wd14, (by unfold yw; rw [if_pos rfl]; exact wd1848), ⟨by decide, by decide, by decide +kernel⟩, by decide⟩, wd1846, wd1847⟩
theorem kL_160 : LkS RL 160 mL_sayers 3 := ⟨⟨wd1192, wd0, (by unfold yw; rw [if_neg (by decide)]; exact wd1194), ⟨by decide, by decide, by decide +kernel⟩, by decide⟩, wd1193⟩
theorem kL_162 : LkV RL 162 mX12_sayers 1 := ⟨⟨wd1874, wd14, (by unfold yw; rw [if_pos rfl]; exact wd1877), ⟨by decide, by decide, by decide +kernel⟩, by decide⟩, wd1875, wd1876⟩
theorem kL_163 : LkS RL 163 mL_stand 5 := ⟨⟨wd1221, wd0, (by unfold yw; rw [if_neg (by decide)]; exact wd1223), ⟨by decide, by decide, by decide +kernel⟩, by decide⟩, wd1222⟩
theorem kL_165 : LkV RL 165 mX12_stand 3 := ⟨⟨wd1878, wd14, (by unfold yw; rw [if_pos rfl]; exact wd1881), ⟨by decide, by decide, by decide +kernel⟩, by decide⟩, wd1879, wd1880⟩
theorem kL_166 : LkS RL 166 mL_matching 5 := ⟨⟨wd1228, wd0, (by unfold yw; rw [if_neg (by decide)]; exact wd1230), ⟨by decide, by decide, by decide +kernel⟩, by decide⟩, wd1229⟩
theorem kL_168 : LkV RL 168 mX12_matching 3 := ⟨⟨wd1882, wd14, (by unfold yw; rw [if_pos rfl]; exact wd1885), ⟨by decide, by decide, by decide +kernel⟩, by decide⟩, wd1883, wd1884⟩
theorem kL_169 : LkS RL 169 mL_moved 7 := ⟨⟨wd1254, wd0, (by unfold yw; rw [if_neg (by decide)]; exact wd1256), ⟨by decide, by decide, by decide +kernel⟩, by decide⟩, wd1255⟩
theorem kL_172 : LkV RL 172 mX12_moved 5 := ⟨⟨wd1894, wd14, (by unfold yw; rw [if_pos rfl]; exact wd1897), ⟨by decide, by decide, by decide +kernel⟩, by decide⟩, wd1895, wd1896⟩
theorem kL_173 : LkS RL 173 mL_code 4 := ⟨⟨wd1275, wd0, (by unfold yw; rw [if_neg (by decide)]; exact wd1277), ⟨by decide, by decide, by decide +kernel⟩, by decide⟩, wd1276⟩
theorem kL_175 : LkV RL 175 mX12_code 2 := ⟨⟨wd1898, wd14, (by unfold yw; rw [if_pos rfl]; exact wd1901), ⟨by decide, by decide, by decide +kernel⟩, by decide⟩, wd1899, wd1900⟩
theorem kL_176 : LkV RL 176 mX11_image 0 := ⟨⟨wd614, wd1, (by unfold yw; rw [if_pos rfl]; exact wd617), ⟨by decide, by decide, by decide +kernel⟩, by decide⟩, wd615, wd616⟩
theorem kL_179 : LkV RL 179 mX12_image 0 := ⟨⟨wd1907, wd14, (by unfold yw; rw [if_pos rfl]; exact wd1910), ⟨by decide, by decide, by decide +kernel⟩, by decide⟩, wd1908, wd1909⟩
theorem kL_180 : LkV RL 180 mX11_restore 0 := ⟨⟨wd625, wd1, (by unfold yw; rw [if_pos rfl]; exact wd628), ⟨by decide, by decide, by decide +kernel⟩, by decide⟩, wd626, wd627⟩
theorem kL_184 : LkV RL 184 mX12_restore 0 := ⟨⟨wd1911, wd14, (by unfold yw; rw [if_pos rfl]; exact wd1914), ⟨by decide, by decide, by decide +kernel⟩, by decide⟩, wd1912, wd1913⟩
theorem kL_20 : LkV RL 20 mX11_wall 2 := ⟨⟨wd878, wd1, (by unfold yw; rw [if_pos rfl]; exact wd881), ⟨by decide, by decide, by decide +kernel⟩, by decide⟩, wd879, wd880⟩
theorem kL_24 : LkV RL 24 mX11_word 2 := ⟨⟨wd889, wd1, (by unfold yw; rw [if_pos rfl]; exact wd892), ⟨by decide, by decide, by decide +kernel⟩, by decide⟩, wd890, wd891⟩
theorem kL_27 : LkV RL 27 mX11_say 2 := ⟨⟨wd896, wd1, (by unfold yw; rw [if_pos rfl]; exact wd899), ⟨by decide, by decide, by decide +kernel⟩, by decide⟩, wd897, wd898⟩
theorem kL_30 : LkV RL 30 mX11_heard 3 := ⟨⟨wd911, wd1, (by unfold yw; rw [if_pos rfl]; exact wd914), ⟨by decide, by decide, by decide +kernel⟩, by decide⟩, wd912, wd913⟩
theorem kL_34 : LkV RL 34 mX11_loud 4 := ⟨⟨wd976, wd1, (by unfold yw; rw [if_pos rfl]; exact wd979), ⟨by decide, by decide, by decide +kernel⟩, by decide⟩, wd977, wd978⟩
theorem kL_38 : LkV RL 38 mX11_lines 2 := ⟨⟨wd987, wd1, (by unfold yw; rw [if_pos rfl]; exact wd990), ⟨by decide, by decide, by decide +kernel⟩, by decide⟩, wd988, wd989⟩
theorem kL_41 : LkV RL 41 mX11_line 3 := ⟨⟨wd1047, wd1, (by unfold yw; rw [if_pos rfl]; exact wd1050), ⟨by decide, by decide, by decide +kernel⟩, by decide⟩, wd1048, wd1049⟩
theorem kL_44 : LkV RL 44 mX11_still 2 := ⟨⟨wd1066, wd1, (by unfold yw; rw [if_pos rfl]; exact wd1069), ⟨by decide, by decide, by decide +kernel⟩, by decide⟩, wd1067, wd1068⟩
theorem kL_47 : LkV RL 47 mX11_without 2 := ⟨⟨wd1077, wd1, (by unfold yw; rw [if_pos rfl]; exact wd1080), ⟨by decide, by decide, by decide +kernel⟩, by decide⟩, wd1078, wd1079⟩
theorem kL_50 : LkV RL 50 mX11_lasts 1 := ⟨⟨wd1084, wd1, (by unfold yw; rw [if_pos rfl]; exact wd1087), ⟨by decide, by decide, by decide +kernel⟩, by decide⟩, wd1085, wd1086⟩
theorem kL_53 : LkV RL 53 mX11_sing 2 := ⟨⟨wd1109, wd1, (by unfold yw; rw [if_pos rfl]; exact wd1112), ⟨by decide, by decide, by decide +kernel⟩, by decide⟩, wd1110, wd1111⟩
theorem kL_56 : LkV RL 56 mX11_round 1 := ⟨⟨wd1116, wd1, (by unfold yw; rw [if_pos rfl]; exact wd1119), ⟨by decide, by decide, by decide +kernel⟩, by decide⟩, wd1117, wd1118⟩
theorem kL_59 : LkV RL 59 mX11_tell 1 := ⟨⟨wd1144, wd1, (by unfold yw; rw [if_pos rfl]; exact wd1147), ⟨by decide, by decide, by decide +kernel⟩, by decide⟩, wd1145, wd1146⟩
theorem kL_62 : LkV RL 62 mX11_rivals 2 := ⟨⟨wd1151, wd1, (by unfold yw; rw [if_pos rfl]; exact wd1154), ⟨by decide, by decide, by decide +kernel⟩, by decide⟩, wd1152, wd1153⟩
theorem kL_65 : LkV RL 65 mX11_sayers 1 := ⟨⟨wd1195, wd1, (by unfold yw; rw [if_pos rfl]; exact wd1198), ⟨by decide, by decide, by decide +kernel⟩, by decide⟩, wd1196, wd1197⟩
theorem kL_68 : LkV RL 68 mX11_stand 3 := ⟨⟨wd1224, wd1, (by unfold yw; rw [if_pos rfl]; exact wd1227), ⟨by decide, by decide, by decide +kernel⟩, by decide⟩, wd1225, wd1226⟩
theorem kL_7 : LkV RL 7 mX11_gorge 1 := ⟨⟨wd633, wd1, (by unfold yw; rw [if_pos rfl]; exact wd636), ⟨by decide, by decide, by decide +kernel⟩, by decide⟩, wd634, wd635⟩
theorem kL_72 : LkV RL 72 mX11_matching 3 := ⟨⟨wd1231, wd1, (by unfold yw; rw [if_pos rfl]; exact wd1234), ⟨by decide, by decide, by decide +kernel⟩, by decide⟩, wd1232, wd1233⟩
theorem kL_75 : LkV RL 75 mX11_moved 5 := ⟨⟨wd1257, wd1, (by unfold yw; rw [if_pos rfl]; exact wd1260), ⟨by decide, by decide, by decide +kernel⟩, by decide⟩, wd1258, wd1259⟩
theorem kL_79 : LkV RL 79 mX11_code 2 := ⟨⟨wd1278, wd1, (by unfold yw; rw [if_pos rfl]; exact wd1281), ⟨by decide, by decide, by decide +kernel⟩, by decide⟩, wd1279, wd1280⟩
theorem kL_86 : LkV RL 86 mX11_feed 5 := ⟨⟨wd584, wd1, (by unfold yw; rw [if_pos rfl]; exact wd587), ⟨by decide, by decide, by decide +kernel⟩, by decide⟩, wd585, wd586⟩
theorem kL_89 : LkV RL 89 mX12_feed 5 := ⟨⟨wd1583, wd14, (by unfold yw; rw [if_pos rfl]; exact wd1586), ⟨by decide, by decide, by decide +kernel⟩, by decide⟩, wd1584, wd1585⟩
theorem kL_90 : LkS RL 90 mL_gorge 3 := ⟨⟨wd629, wd0, (by unfold yw; rw [if_neg (by decide)]; exact wd631), ⟨by decide, by decide, by decide +kernel⟩, by decide⟩, wd630⟩
theorem kL_95 : LkV RL 95 mX12_gorge 1 := ⟨⟨wd1591, wd14, (by unfold yw; rw [if_pos rfl]; exact wd1594), ⟨by decide, by decide, by decide +kernel⟩, by decide⟩, wd1592, wd1593⟩
theorem kL_96 : LkV RL 96 mX12_thrown 0 := ⟨⟨wd1579, wd14, (by unfold yw; rw [if_pos rfl]; exact wd1582), ⟨by decide, by decide, by decide +kernel⟩, by decide⟩, wd1580, wd1581⟩
theorem kX12_142 : LkV RX12 142 mX12_lays 1 := ⟨⟨wd1587, wd14, (by unfold yw; rw [if_pos rfl]; exact wd1590), ⟨by decide, by decide, by decide +kernel⟩, by decide⟩, wd1589, v54⟩
theorem kX12_152 : LkV RX12 152 mX12_byteAt 1 := ⟨⟨wd1603, wd14, (by unfold yw; rw [if_pos rfl]; exact wd1606), ⟨by decide, by decide, by decide +kernel⟩, by decide⟩, wd1605, v57⟩
theorem kX12_169 : LkS RX12 169 mX12_isLetter 1 := ⟨⟨wd1607, wd14, (by unfold yw; rw [if_pos rfl]; exact wd1609), ⟨by decide, by decide, by decide +kernel⟩, by decide⟩, wd1608⟩
theorem kX12_173 : LkS RX12 173 mX12_isDigit 1 := ⟨⟨wd1610, wd14, (by unfold yw; rw [if_pos rfl]; exact wd1612), ⟨by decide, by decide, by decide +kernel⟩, by decide⟩, wd1611⟩
theorem kX12_179 : LkS RX12 179 mX12_spelled 8 := ⟨⟨wd1628, wd14, (by unfold yw; rw [if_pos rfl]; exact wd1630), ⟨by decide, by decide, by decide +kernel⟩, by decide⟩, wd1629⟩
theorem kX12_183 : LkS RX12 183 mX12_lettersOf 1 := ⟨⟨wd1625, wd14, (by unfold yw; rw [if_pos rfl]; exact wd1627), ⟨by decide, by decide, by decide +kernel⟩, by decide⟩, wd1626⟩
theorem kX12_190 : LkV RX12 190 mX12_isGood 0 := ⟨⟨wd1613, wd14, (by unfold yw; rw [if_pos rfl]; exact wd1616), ⟨by decide, by decide, by decide +kernel⟩, by decide⟩, wd1615, v58⟩
theorem kX12_194 : LkV RX12 194 mX12_steps 0 := ⟨⟨wd1599, wd14, (by unfold yw; rw [if_pos rfl]; exact wd1602), ⟨by decide, by decide, by decide +kernel⟩, by decide⟩, wd1601, v56⟩
theorem kX12_197 : LkV RX12 197 mX12_wrong 1 := ⟨⟨wd1631, wd14, (by unfold yw; rw [if_pos rfl]; exact wd1634), ⟨by decide, by decide, by decide +kernel⟩, by decide⟩, wd1633, v61⟩
theorem kX12_206 : LkV RX12 206 mX12_number 2 := ⟨⟨wd1635, wd14, (by unfold yw; rw [if_pos rfl]; exact wd1638), ⟨by decide, by decide, by decide +kernel⟩, by decide⟩, wd1637, v62⟩
theorem kX12_210 : LkV RX12 210 mX12_is 1 := ⟨⟨wd1621, wd14, (by unfold yw; rw [if_pos rfl]; exact wd1624), ⟨by decide, by decide, by decide +kernel⟩, by decide⟩, wd1623, v60⟩
theorem kX12_213 : LkV RX12 213 mX12_soundHere 0 := ⟨⟨wd1651, wd14, (by unfold yw; rw [if_pos rfl]; exact wd1654), ⟨by decide, by decide, by decide +kernel⟩, by decide⟩, wd1653, v66⟩
theorem kX12_225 : LkV RX12 225 mX12_readsWall 0 := ⟨⟨wd1639, wd14, (by unfold yw; rw [if_pos rfl]; exact wd1642), ⟨by decide, by decide, by decide +kernel⟩, by decide⟩, wd1641, v63⟩
theorem kX12_232 : LkV RX12 232 mX12_readsAir 0 := ⟨⟨wd1643, wd14, (by unfold yw; rw [if_pos rfl]; exact wd1646), ⟨by decide, by decide, by decide +kernel⟩, by decide⟩, wd1645, v64⟩
theorem kX12_247 : LkV RX12 247 mX12_readsSweet 0 := ⟨⟨wd1647, wd14, (by unfold yw; rw [if_pos rfl]; exact wd1650), ⟨by decide, by decide, by decide +kernel⟩, by decide⟩, wd1649, v65⟩
theorem kX12_250 : LkV RX12 250 mX12_readsWord 0 := ⟨⟨wd1655, wd14, (by unfold yw; rw [if_pos rfl]; exact wd1658), ⟨by decide, by decide, by decide +kernel⟩, by decide⟩, wd1657, v67⟩
theorem kX12_253 : LkV RX12 253 mX12_readsForm 0 := ⟨⟨wd1659, wd14, (by unfold yw; rw [if_pos rfl]; exact wd1662), ⟨by decide, by decide, by decide +kernel⟩, by decide⟩, wd1661, v68⟩
theorem kX12_256 : LkV RX12 256 mX12_need 1 := ⟨⟨wd1663, wd14, (by unfold yw; rw [if_pos rfl]; exact wd1666), ⟨by decide, by decide, by decide +kernel⟩, by decide⟩, wd1665, v69⟩
theorem kX12_260 : LkV RX12 260 mX12_right 2 := ⟨⟨wd1595, wd14, (by unfold yw; rw [if_pos rfl]; exact wd1598), ⟨by decide, by decide, by decide +kernel⟩, by decide⟩, wd1597, v55⟩
theorem kX12_264 : LkV RX12 264 mX12_line 0 := ⟨⟨wd1617, wd14, (by unfold yw; rw [if_pos rfl]; exact wd1620), ⟨by decide, by decide, by decide +kernel⟩, by decide⟩, wd1619, v59⟩
theorem kX12_285 : LkV RX12 285 mX12_copies 2 := ⟨⟨wd1667, wd14, (by unfold yw; rw [if_pos rfl]; exact wd1670), ⟨by decide, by decide, by decide +kernel⟩, by decide⟩, wd1669, v70⟩
theorem kX12_301 : LkS RX12 301 mX12_within 3 := ⟨⟨wd1679, wd14, (by unfold yw; rw [if_pos rfl]; exact wd1681), ⟨by decide, by decide, by decide +kernel⟩, by decide⟩, wd1680⟩
theorem kX12_305 : LkV RX12 305 mX12_allLines 0 := ⟨⟨wd1682, wd14, (by unfold yw; rw [if_pos rfl]; exact wd1685), ⟨by decide, by decide, by decide +kernel⟩, by decide⟩, wd1684, v71⟩
theorem kX12_318 : LkV RX12 318 mX12_comes 3 := ⟨⟨wd1738, wd14, (by unfold yw; rw [if_pos rfl]; exact wd1741), ⟨by decide, by decide, by decide +kernel⟩, by decide⟩, wd1740, v80⟩
theorem kX12_325 : LkV RX12 325 mX12_isSound 1 := ⟨⟨wd1710, wd14, (by unfold yw; rw [if_pos rfl]; exact wd1713), ⟨by decide, by decide, by decide +kernel⟩, by decide⟩, wd1712, v75⟩
theorem kX12_328 : LkV RX12 328 mX12_opens 3 := ⟨⟨wd1730, wd14, (by unfold yw; rw [if_pos rfl]; exact wd1733), ⟨by decide, by decide, by decide +kernel⟩, by decide⟩, wd1732, v78⟩
theorem kX12_331 : LkV RX12 331 mX12_says 2 := ⟨⟨wd1734, wd14, (by unfold yw; rw [if_pos rfl]; exact wd1737), ⟨by decide, by decide, by decide +kernel⟩, by decide⟩, wd1736, v79⟩
theorem kX12_335 : LkV RX12 335 mX12_isWhere 3 := ⟨⟨wd1722, wd14, (by unfold yw; rw [if_pos rfl]; exact wd1725), ⟨by decide, by decide, by decide +kernel⟩, by decide⟩, wd1724, v76⟩
theorem kX12_338 : LkV RX12 338 mX12_allSaid 3 := ⟨⟨wd1726, wd14, (by unfold yw; rw [if_pos rfl]; exact wd1729), ⟨by decide, by decide, by decide +kernel⟩, by decide⟩, wd1728, v77⟩
theorem kX12_341 : LkV RX12 341 mX12_hears 1 := ⟨⟨wd1742, wd14, (by unfold yw; rw [if_pos rfl]; exact wd1745), ⟨by decide, by decide, by decide +kernel⟩, by decide⟩, wd1744, v81⟩
theorem kX12_344 : LkV RX12 344 mX12_kindOf 2 := ⟨⟨wd1690, wd14, (by unfold yw; rw [if_pos rfl]; exact wd1693), ⟨by decide, by decide, by decide +kernel⟩, by decide⟩, wd1692, v73⟩
theorem kX12_347 : LkV RX12 347 mX12_wordsOf 1 := ⟨⟨wd1694, wd14, (by unfold yw; rw [if_pos rfl]; exact wd1697), ⟨by decide, by decide, by decide +kernel⟩, by decide⟩, wd1696, v74⟩
theorem kX12_350 : LkV RX12 350 mX12_linesOf 1 := ⟨⟨wd1686, wd14, (by unfold yw; rw [if_pos rfl]; exact wd1689), ⟨by decide, by decide, by decide +kernel⟩, by decide⟩, wd1688, v72⟩
theorem kX12_356 : LkV RX12 356 mX12_nextForm 0 := ⟨⟨wd1766, wd14, (by unfold yw; rw [if_pos rfl]; exact wd1769), ⟨by decide, by decide, by decide +kernel⟩, by decide⟩, wd1768, v85⟩
theorem kX12_359 : LkV RX12 359 mX12_wordBehind 2 := ⟨⟨wd1770, wd14, (by unfold yw; rw [if_pos rfl]; exact wd1773), ⟨by decide, by decide, by decide +kernel⟩, by decide⟩, wd1772, v86⟩
theorem kX12_365 : LkV RX12 365 mX12_speaks 0 := ⟨⟨wd1782, wd14, (by unfold yw; rw [if_pos rfl]; exact wd1785), ⟨by decide, by decide, by decide +kernel⟩, by decide⟩, wd1784, v89⟩
theorem kX12_371 : LkV RX12 371 mX12_isWordAt 2 := ⟨⟨wd1790, wd14, (by unfold yw; rw [if_pos rfl]; exact wd1793), ⟨by decide, by decide, by decide +kernel⟩, by decide⟩, wd1792, v91⟩
theorem kX12_375 : LkV RX12 375 mX12_returns 1 := ⟨⟨wd1778, wd14, (by unfold yw; rw [if_pos rfl]; exact wd1781), ⟨by decide, by decide, by decide +kernel⟩, by decide⟩, wd1780, v88⟩
theorem kX12_378 : LkV RX12 378 mX12_isLine 0 := ⟨⟨wd1786, wd14, (by unfold yw; rw [if_pos rfl]; exact wd1789), ⟨by decide, by decide, by decide +kernel⟩, by decide⟩, wd1788, v90⟩
theorem kX12_393 : LkV RX12 393 mX12_firstLine 0 := ⟨⟨wd1762, wd14, (by unfold yw; rw [if_pos rfl]; exact wd1765), ⟨by decide, by decide, by decide +kernel⟩, by decide⟩, wd1764, v84⟩
theorem kX12_396 : LkV RX12 396 mX12_answers 1 := ⟨⟨wd1774, wd14, (by unfold yw; rw [if_pos rfl]; exact wd1777), ⟨by decide, by decide, by decide +kernel⟩, by decide⟩, wd1776, v87⟩
theorem kX12_399 : LkV RX12 399 mX12_isEchoed 0 := ⟨⟨wd1794, wd14, (by unfold yw; rw [if_pos rfl]; exact wd1797), ⟨by decide, by decide, by decide +kernel⟩, by decide⟩, wd1796, v92⟩
theorem kX12_405 : LkV RX12 405 mX12_nextLine 0 := ⟨⟨wd1798, wd14, (by unfold yw; rw [if_pos rfl]; exact wd1801), ⟨by decide, by decide, by decide +kernel⟩, by decide⟩, wd1800, v93⟩
theorem kX12_408 : LkV RX12 408 mX12_isHour 1 := ⟨⟨wd1754, wd14, (by unfold yw; rw [if_pos rfl]; exact wd1757), ⟨by decide, by decide, by decide +kernel⟩, by decide⟩, wd1756, v82⟩
theorem kX12_411 : LkV RX12 411 mX12_goesThrough 1 := ⟨⟨wd1758, wd14, (by unfold yw; rw [if_pos rfl]; exact wd1761), ⟨by decide, by decide, by decide +kernel⟩, by decide⟩, wd1760, v83⟩
theorem kX12_414 : LkS RX12 414 mX12_bits 1 := ⟨⟨wd1802, wd14, (by unfold yw; rw [if_pos rfl]; exact wd1804), ⟨by decide, by decide, by decide +kernel⟩, by decide⟩, wd1803⟩
theorem kX12_417 : LkV RX12 417 mX12_stillOf 4 := ⟨⟨wd1813, wd14, (by unfold yw; rw [if_pos rfl]; exact wd1816), ⟨by decide, by decide, by decide +kernel⟩, by decide⟩, wd1815, v94⟩
theorem kX12_421 : LkV RX12 421 mX12_clashes 1 := ⟨⟨wd1833, wd14, (by unfold yw; rw [if_pos rfl]; exact wd1836), ⟨by decide, by decide, by decide +kernel⟩, by decide⟩, wd1835, v95⟩
theorem kX12_424 : LkV RX12 424 mX12_toldAt 1 := ⟨⟨wd1862, wd14, (by unfold yw; rw [if_pos rfl]; exact wd1865), ⟨by decide, by decide, by decide +kernel⟩, by decide⟩, wd1864, v99⟩
theorem kX12_431 : LkV RX12 431 mX12_saysBy 4 := ⟨⟨wd1854, wd14, (by unfold yw; rw [if_pos rfl]; exact wd1857), ⟨by decide, by decide, by decide +kernel⟩, by decide⟩, wd1856, v97⟩
theorem kX12_435 : LkV RX12 435 mX12_isTold 0 := ⟨⟨wd1858, wd14, (by unfold yw; rw [if_pos rfl]; exact wd1861), ⟨by decide, by decide, by decide +kernel⟩, by decide⟩, wd1860, v98⟩
theorem kX12_438 : LkS RX12 438 mX12_next0 2 := ⟨⟨wd1866, wd14, (by unfold yw; rw [if_pos rfl]; exact wd1868), ⟨by decide, by decide, by decide +kernel⟩, by decide⟩, wd1867⟩
theorem kX12_441 : LkV RX12 441 mX12_finds 1 := ⟨⟨wd1849, wd14, (by unfold yw; rw [if_pos rfl]; exact wd1852), ⟨by decide, by decide, by decide +kernel⟩, by decide⟩, wd1851, v96⟩
theorem kX12_445 : LkV RX12 445 mX12_group 2 := ⟨⟨wd1870, wd14, (by unfold yw; rw [if_pos rfl]; exact wd1873), ⟨by decide, by decide, by decide +kernel⟩, by decide⟩, wd1872, v100⟩
theorem kX12_448 : LkV RX12 448 mX12_ticksTo 2 := ⟨⟨wd1890, wd14, (by unfold yw; rw [if_pos rfl]; exact wd1893), ⟨by decide, by decide, by decide +kernel⟩, by decide⟩, wd1892, v102⟩
theorem kX12_451 : LkV RX12 451 mX12_matches 3 := ⟨⟨wd1886, wd14, (by unfold yw; rw [if_pos rfl]; exact wd1889), ⟨by decide, by decide, by decide +kernel⟩, by decide⟩, wd1888, v101⟩
theorem kX12_454 : LkV RX12 454 mX12_falls 1 := ⟨⟨wd1902, wd14, (by unfold yw; rw [if_pos rfl]; exact wd1905), ⟨by decide, by decide, by decide +kernel⟩, by decide⟩, wd1904, v103⟩
