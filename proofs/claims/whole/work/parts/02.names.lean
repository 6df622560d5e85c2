-- ===== PART A: goes FIRST, ahead of the names: the tables' words, and 'selects' of the private methods out of them =====
/-- a private method of a class that the tables say can be made, by its rows of tables_1 -/
def lw_okq (q : MethodName × Nat) : Prop := (q.1.cls ≠ "java/lang/invoke/MethodHandle" ∧ q.1.cls ≠ "java/lang/invoke/VarHandle") ∧ Cond.instantiable q.1.cls q.2 ∈ tables_1 ∧ Cond.privateMethod q.1 ∈ tables_1 ∧ Cond.instanceMethod q.1 ∈ tables_1
theorem lw_p0 : lw_okq (⟨"EchoGorge", "tapeNumber", "(I)V"⟩, 18) := ⟨⟨by decide +kernel, by decide +kernel⟩, List.mem_of_getElem? (i := 28) (by decide +kernel), List.mem_of_getElem? (i := 589) (by decide +kernel), List.mem_of_getElem? (i := 590) (by decide +kernel)⟩
theorem lw_p1 : lw_okq (⟨"java/lang/Throwable", "fillInStackTrace", "(I)Ljava/lang/Throwable;"⟩, 6) := ⟨⟨by decide +kernel, by decide +kernel⟩, List.mem_of_getElem? (i := 675) (by decide +kernel), List.mem_of_getElem? (i := 673) (by decide +kernel), List.mem_of_getElem? (i := 674) (by decide +kernel)⟩
theorem lw_p2 : lw_okq (⟨"EchoGorge$Reader", "step", "()V"⟩, 12) := ⟨⟨by decide +kernel, by decide +kernel⟩, List.mem_of_getElem? (i := 236) (by decide +kernel), List.mem_of_getElem? (i := 708) (by decide +kernel), List.mem_of_getElem? (i := 709) (by decide +kernel)⟩
theorem lw_p3 : lw_okq (⟨"EchoGorge$Reader", "readLine", "()Z"⟩, 12) := ⟨⟨by decide +kernel, by decide +kernel⟩, List.mem_of_getElem? (i := 236) (by decide +kernel), List.mem_of_getElem? (i := 718) (by decide +kernel), List.mem_of_getElem? (i := 719) (by decide +kernel)⟩
theorem lw_p4 : lw_okq (⟨"EchoGorge$Reader", "spells", "(Ljava/lang/String;)Z"⟩, 12) := ⟨⟨by decide +kernel, by decide +kernel⟩, List.mem_of_getElem? (i := 236) (by decide +kernel), List.mem_of_getElem? (i := 723) (by decide +kernel), List.mem_of_getElem? (i := 724) (by decide +kernel)⟩
theorem lw_p5 : lw_okq (⟨"EchoGorge$Reader", "readSound", "()Z"⟩, 12) := ⟨⟨by decide +kernel, by decide +kernel⟩, List.mem_of_getElem? (i := 236) (by decide +kernel), List.mem_of_getElem? (i := 775) (by decide +kernel), List.mem_of_getElem? (i := 776) (by decide +kernel)⟩
theorem lw_p6 : lw_okq (⟨"EchoGorge$Reader", "fail", "(I)Z"⟩, 12) := ⟨⟨by decide +kernel, by decide +kernel⟩, List.mem_of_getElem? (i := 236) (by decide +kernel), List.mem_of_getElem? (i := 779) (by decide +kernel), List.mem_of_getElem? (i := 780) (by decide +kernel)⟩
theorem lw_p7 : lw_okq (⟨"EchoGorge$Reader", "isNumber", "(II)Z"⟩, 12) := ⟨⟨by decide +kernel, by decide +kernel⟩, List.mem_of_getElem? (i := 236) (by decide +kernel), List.mem_of_getElem? (i := 783) (by decide +kernel), List.mem_of_getElem? (i := 784) (by decide +kernel)⟩
theorem lw_p8 : lw_okq (⟨"EchoGorge$Reader", "readEnd", "()Z"⟩, 12) := ⟨⟨by decide +kernel, by decide +kernel⟩, List.mem_of_getElem? (i := 236) (by decide +kernel), List.mem_of_getElem? (i := 787) (by decide +kernel), List.mem_of_getElem? (i := 788) (by decide +kernel)⟩
theorem lw_p9 : lw_okq (⟨"EchoGorge$Reader", "readWall", "()Z"⟩, 12) := ⟨⟨by decide +kernel, by decide +kernel⟩, List.mem_of_getElem? (i := 236) (by decide +kernel), List.mem_of_getElem? (i := 792) (by decide +kernel), List.mem_of_getElem? (i := 793) (by decide +kernel)⟩
theorem lw_p10 : lw_okq (⟨"EchoGorge$Reader", "readSwallows", "(I)Z"⟩, 12) := ⟨⟨by decide +kernel, by decide +kernel⟩, List.mem_of_getElem? (i := 236) (by decide +kernel), List.mem_of_getElem? (i := 797) (by decide +kernel), List.mem_of_getElem? (i := 798) (by decide +kernel)⟩
theorem lw_p11 : lw_okq (⟨"EchoGorge$Reader", "readAgain", "(I)Z"⟩, 12) := ⟨⟨by decide +kernel, by decide +kernel⟩, List.mem_of_getElem? (i := 236) (by decide +kernel), List.mem_of_getElem? (i := 802) (by decide +kernel), List.mem_of_getElem? (i := 803) (by decide +kernel)⟩
theorem lw_p12 : lw_okq (⟨"EchoGorge$Reader", "readStraight", "()Z"⟩, 12) := ⟨⟨by decide +kernel, by decide +kernel⟩, List.mem_of_getElem? (i := 236) (by decide +kernel), List.mem_of_getElem? (i := 807) (by decide +kernel), List.mem_of_getElem? (i := 808) (by decide +kernel)⟩
theorem lw_p13 : lw_okq (⟨"EchoGorge$Reader", "readAir", "()Z"⟩, 12) := ⟨⟨by decide +kernel, by decide +kernel⟩, List.mem_of_getElem? (i := 236) (by decide +kernel), List.mem_of_getElem? (i := 812) (by decide +kernel), List.mem_of_getElem? (i := 813) (by decide +kernel)⟩
theorem lw_p14 : lw_okq (⟨"EchoGorge$Reader", "readMask", "()Z"⟩, 12) := ⟨⟨by decide +kernel, by decide +kernel⟩, List.mem_of_getElem? (i := 236) (by decide +kernel), List.mem_of_getElem? (i := 817) (by decide +kernel), List.mem_of_getElem? (i := 818) (by decide +kernel)⟩
theorem lw_p15 : lw_okq (⟨"EchoGorge$Reader", "readSweet", "()Z"⟩, 12) := ⟨⟨by decide +kernel, by decide +kernel⟩, List.mem_of_getElem? (i := 236) (by decide +kernel), List.mem_of_getElem? (i := 822) (by decide +kernel), List.mem_of_getElem? (i := 823) (by decide +kernel)⟩
def lw_privs_1 : List (MethodName × Nat) := [(⟨"EchoGorge", "tapeNumber", "(I)V"⟩, 18), (⟨"java/lang/Throwable", "fillInStackTrace", "(I)Ljava/lang/Throwable;"⟩, 6), (⟨"EchoGorge$Reader", "step", "()V"⟩, 12), (⟨"EchoGorge$Reader", "readLine", "()Z"⟩, 12), (⟨"EchoGorge$Reader", "spells", "(Ljava/lang/String;)Z"⟩, 12), (⟨"EchoGorge$Reader", "readSound", "()Z"⟩, 12), (⟨"EchoGorge$Reader", "fail", "(I)Z"⟩, 12), (⟨"EchoGorge$Reader", "isNumber", "(II)Z"⟩, 12), (⟨"EchoGorge$Reader", "readEnd", "()Z"⟩, 12), (⟨"EchoGorge$Reader", "readWall", "()Z"⟩, 12), (⟨"EchoGorge$Reader", "readSwallows", "(I)Z"⟩, 12), (⟨"EchoGorge$Reader", "readAgain", "(I)Z"⟩, 12), (⟨"EchoGorge$Reader", "readStraight", "()Z"⟩, 12), (⟨"EchoGorge$Reader", "readAir", "()Z"⟩, 12), (⟨"EchoGorge$Reader", "readMask", "()Z"⟩, 12), (⟨"EchoGorge$Reader", "readSweet", "()Z"⟩, 12)]
theorem lw_r1 : ∀ q ∈ lw_privs_1, lw_okq q := List.forall_mem_cons.mpr ⟨lw_p0, List.forall_mem_cons.mpr ⟨lw_p1, List.forall_mem_cons.mpr ⟨lw_p2, List.forall_mem_cons.mpr ⟨lw_p3, List.forall_mem_cons.mpr ⟨lw_p4, List.forall_mem_cons.mpr ⟨lw_p5, List.forall_mem_cons.mpr ⟨lw_p6, List.forall_mem_cons.mpr ⟨lw_p7, List.forall_mem_cons.mpr ⟨lw_p8, List.forall_mem_cons.mpr ⟨lw_p9, List.forall_mem_cons.mpr ⟨lw_p10, List.forall_mem_cons.mpr ⟨lw_p11, List.forall_mem_cons.mpr ⟨lw_p12, List.forall_mem_cons.mpr ⟨lw_p13, List.forall_mem_cons.mpr ⟨lw_p14, List.forall_mem_cons.mpr ⟨lw_p15, fun _ h => absurd h List.not_mem_nil⟩⟩⟩⟩⟩⟩⟩⟩⟩⟩⟩⟩⟩⟩⟩⟩
theorem lw_p16 : lw_okq (⟨"EchoGorge$Reader", "isToldSound", "()Z"⟩, 12) := ⟨⟨by decide +kernel, by decide +kernel⟩, List.mem_of_getElem? (i := 236) (by decide +kernel), List.mem_of_getElem? (i := 826) (by decide +kernel), List.mem_of_getElem? (i := 827) (by decide +kernel)⟩
theorem lw_p17 : lw_okq (⟨"EchoGorge$Reader", "readWord", "()Z"⟩, 12) := ⟨⟨by decide +kernel, by decide +kernel⟩, List.mem_of_getElem? (i := 236) (by decide +kernel), List.mem_of_getElem? (i := 831) (by decide +kernel), List.mem_of_getElem? (i := 832) (by decide +kernel)⟩
theorem lw_p18 : lw_okq (⟨"EchoGorge$Reader", "readForm", "()Z"⟩, 12) := ⟨⟨by decide +kernel, by decide +kernel⟩, List.mem_of_getElem? (i := 236) (by decide +kernel), List.mem_of_getElem? (i := 836) (by decide +kernel), List.mem_of_getElem? (i := 837) (by decide +kernel)⟩
theorem lw_p19 : lw_okq (⟨"EchoGorge$Verses", "measureForm", "(I)V"⟩, 16) := ⟨⟨by decide +kernel, by decide +kernel⟩, List.mem_of_getElem? (i := 355) (by decide +kernel), List.mem_of_getElem? (i := 849) (by decide +kernel), List.mem_of_getElem? (i := 850) (by decide +kernel)⟩
theorem lw_p20 : lw_okq (⟨"EchoGorge", "needWall", "(I)V"⟩, 18) := ⟨⟨by decide +kernel, by decide +kernel⟩, List.mem_of_getElem? (i := 28) (by decide +kernel), List.mem_of_getElem? (i := 883) (by decide +kernel), List.mem_of_getElem? (i := 884) (by decide +kernel)⟩
theorem lw_p21 : lw_okq (⟨"EchoGorge", "needSound", "(I)V"⟩, 18) := ⟨⟨by decide +kernel, by decide +kernel⟩, List.mem_of_getElem? (i := 28) (by decide +kernel), List.mem_of_getElem? (i := 901) (by decide +kernel), List.mem_of_getElem? (i := 902) (by decide +kernel)⟩
theorem lw_p22 : lw_okq (⟨"EchoGorge", "needMoment", "(III)V"⟩, 18) := ⟨⟨by decide +kernel, by decide +kernel⟩, List.mem_of_getElem? (i := 28) (by decide +kernel), List.mem_of_getElem? (i := 916) (by decide +kernel), List.mem_of_getElem? (i := 917) (by decide +kernel)⟩
theorem lw_p23 : lw_okq (⟨"EchoGorge", "needEar", "(I)V"⟩, 18) := ⟨⟨by decide +kernel, by decide +kernel⟩, List.mem_of_getElem? (i := 28) (by decide +kernel), List.mem_of_getElem? (i := 920) (by decide +kernel), List.mem_of_getElem? (i := 921) (by decide +kernel)⟩
theorem lw_p24 : lw_okq (⟨"EchoGorge", "needHour", "(I)V"⟩, 18) := ⟨⟨by decide +kernel, by decide +kernel⟩, List.mem_of_getElem? (i := 28) (by decide +kernel), List.mem_of_getElem? (i := 924) (by decide +kernel), List.mem_of_getElem? (i := 925) (by decide +kernel)⟩
theorem lw_p25 : lw_okq (⟨"EchoGorge$Returns", "place", "(I)I"⟩, 9) := ⟨⟨by decide +kernel, by decide +kernel⟩, List.mem_of_getElem? (i := 280) (by decide +kernel), List.mem_of_getElem? (i := 932) (by decide +kernel), List.mem_of_getElem? (i := 933) (by decide +kernel)⟩
theorem lw_p26 : lw_okq (⟨"EchoGorge$Returns", "addWall", "(LEchoGorge$Gorge;I)V"⟩, 9) := ⟨⟨by decide +kernel, by decide +kernel⟩, List.mem_of_getElem? (i := 280) (by decide +kernel), List.mem_of_getElem? (i := 937) (by decide +kernel), List.mem_of_getElem? (i := 938) (by decide +kernel)⟩
theorem lw_p27 : lw_okq (⟨"EchoGorge$Verses", "surveyForm", "(IIILEchoGorge$Hearing;LEchoGorge$Returns;)V"⟩, 16) := ⟨⟨by decide +kernel, by decide +kernel⟩, List.mem_of_getElem? (i := 355) (by decide +kernel), List.mem_of_getElem? (i := 997) (by decide +kernel), List.mem_of_getElem? (i := 998) (by decide +kernel)⟩
theorem lw_p28 : lw_okq (⟨"EchoGorge$Verses", "spell", "(II)V"⟩, 16) := ⟨⟨by decide +kernel, by decide +kernel⟩, List.mem_of_getElem? (i := 355) (by decide +kernel), List.mem_of_getElem? (i := 1002) (by decide +kernel), List.mem_of_getElem? (i := 1003) (by decide +kernel)⟩
theorem lw_p29 : lw_okq (⟨"EchoGorge$Verses", "listen", "(LEchoGorge$Hearing;LEchoGorge$Returns;)Z"⟩, 16) := ⟨⟨by decide +kernel, by decide +kernel⟩, List.mem_of_getElem? (i := 355) (by decide +kernel), List.mem_of_getElem? (i := 1006) (by decide +kernel), List.mem_of_getElem? (i := 1007) (by decide +kernel)⟩
theorem lw_p30 : lw_okq (⟨"EchoGorge$Verses", "weigh", "(III)I"⟩, 16) := ⟨⟨by decide +kernel, by decide +kernel⟩, List.mem_of_getElem? (i := 355) (by decide +kernel), List.mem_of_getElem? (i := 1017) (by decide +kernel), List.mem_of_getElem? (i := 1018) (by decide +kernel)⟩
theorem lw_p31 : lw_okq (⟨"EchoGorge$Verses", "isEchoed", "(I)Z"⟩, 16) := ⟨⟨by decide +kernel, by decide +kernel⟩, List.mem_of_getElem? (i := 355) (by decide +kernel), List.mem_of_getElem? (i := 1021) (by decide +kernel), List.mem_of_getElem? (i := 1022) (by decide +kernel)⟩
def lw_privs_2 : List (MethodName × Nat) := [(⟨"EchoGorge$Reader", "isToldSound", "()Z"⟩, 12), (⟨"EchoGorge$Reader", "readWord", "()Z"⟩, 12), (⟨"EchoGorge$Reader", "readForm", "()Z"⟩, 12), (⟨"EchoGorge$Verses", "measureForm", "(I)V"⟩, 16), (⟨"EchoGorge", "needWall", "(I)V"⟩, 18), (⟨"EchoGorge", "needSound", "(I)V"⟩, 18), (⟨"EchoGorge", "needMoment", "(III)V"⟩, 18), (⟨"EchoGorge", "needEar", "(I)V"⟩, 18), (⟨"EchoGorge", "needHour", "(I)V"⟩, 18), (⟨"EchoGorge$Returns", "place", "(I)I"⟩, 9), (⟨"EchoGorge$Returns", "addWall", "(LEchoGorge$Gorge;I)V"⟩, 9), (⟨"EchoGorge$Verses", "surveyForm", "(IIILEchoGorge$Hearing;LEchoGorge$Returns;)V"⟩, 16), (⟨"EchoGorge$Verses", "spell", "(II)V"⟩, 16), (⟨"EchoGorge$Verses", "listen", "(LEchoGorge$Hearing;LEchoGorge$Returns;)Z"⟩, 16), (⟨"EchoGorge$Verses", "weigh", "(III)I"⟩, 16), (⟨"EchoGorge$Verses", "isEchoed", "(I)Z"⟩, 16)]
theorem lw_r2 : ∀ q ∈ lw_privs_2, lw_okq q := List.forall_mem_cons.mpr ⟨lw_p16, List.forall_mem_cons.mpr ⟨lw_p17, List.forall_mem_cons.mpr ⟨lw_p18, List.forall_mem_cons.mpr ⟨lw_p19, List.forall_mem_cons.mpr ⟨lw_p20, List.forall_mem_cons.mpr ⟨lw_p21, List.forall_mem_cons.mpr ⟨lw_p22, List.forall_mem_cons.mpr ⟨lw_p23, List.forall_mem_cons.mpr ⟨lw_p24, List.forall_mem_cons.mpr ⟨lw_p25, List.forall_mem_cons.mpr ⟨lw_p26, List.forall_mem_cons.mpr ⟨lw_p27, List.forall_mem_cons.mpr ⟨lw_p28, List.forall_mem_cons.mpr ⟨lw_p29, List.forall_mem_cons.mpr ⟨lw_p30, List.forall_mem_cons.mpr ⟨lw_p31, fun _ h => absurd h List.not_mem_nil⟩⟩⟩⟩⟩⟩⟩⟩⟩⟩⟩⟩⟩⟩⟩⟩
theorem lw_p32 : lw_okq (⟨"EchoGorge$Verses", "fitsAt", "(II)Z"⟩, 16) := ⟨⟨by decide +kernel, by decide +kernel⟩, List.mem_of_getElem? (i := 355) (by decide +kernel), List.mem_of_getElem? (i := 1025) (by decide +kernel), List.mem_of_getElem? (i := 1026) (by decide +kernel)⟩
theorem lw_p33 : lw_okq (⟨"EchoGorge$Verses", "isLine", "()Z"⟩, 16) := ⟨⟨by decide +kernel, by decide +kernel⟩, List.mem_of_getElem? (i := 355) (by decide +kernel), List.mem_of_getElem? (i := 1029) (by decide +kernel), List.mem_of_getElem? (i := 1030) (by decide +kernel)⟩
theorem lw_p34 : lw_okq (⟨"EchoGorge$Verses", "fittingPlaces", "(I)I"⟩, 16) := ⟨⟨by decide +kernel, by decide +kernel⟩, List.mem_of_getElem? (i := 355) (by decide +kernel), List.mem_of_getElem? (i := 1033) (by decide +kernel), List.mem_of_getElem? (i := 1034) (by decide +kernel)⟩
theorem lw_p35 : lw_okq (⟨"EchoGorge$Verses", "layKind", "(II)I"⟩, 16) := ⟨⟨by decide +kernel, by decide +kernel⟩, List.mem_of_getElem? (i := 355) (by decide +kernel), List.mem_of_getElem? (i := 1037) (by decide +kernel), List.mem_of_getElem? (i := 1038) (by decide +kernel)⟩
theorem lw_p36 : lw_okq (⟨"EchoGorge$Verses", "answersNow", "(II)Z"⟩, 16) := ⟨⟨by decide +kernel, by decide +kernel⟩, List.mem_of_getElem? (i := 355) (by decide +kernel), List.mem_of_getElem? (i := 1056) (by decide +kernel), List.mem_of_getElem? (i := 1057) (by decide +kernel)⟩
theorem lw_p37 : lw_okq (⟨"EchoGorge$Verses", "searchFog", "(ILEchoGorge$Hearing;LEchoGorge$Returns;)I"⟩, 16) := ⟨⟨by decide +kernel, by decide +kernel⟩, List.mem_of_getElem? (i := 355) (by decide +kernel), List.mem_of_getElem? (i := 1093) (by decide +kernel), List.mem_of_getElem? (i := 1094) (by decide +kernel)⟩
theorem lw_p38 : lw_okq (⟨"EchoGorge$Verses", "changesShares", "(I)Z"⟩, 16) := ⟨⟨by decide +kernel, by decide +kernel⟩, List.mem_of_getElem? (i := 355) (by decide +kernel), List.mem_of_getElem? (i := 1097) (by decide +kernel), List.mem_of_getElem? (i := 1098) (by decide +kernel)⟩
theorem lw_p39 : lw_okq (⟨"EchoGorge$Chant", "listen", "(LEchoGorge$Gorge;LEchoGorge$Returns;LEchoGorge$Scene;II)I"⟩, 1) := ⟨⟨by decide +kernel, by decide +kernel⟩, List.mem_of_getElem? (i := 415) (by decide +kernel), List.mem_of_getElem? (i := 1125) (by decide +kernel), List.mem_of_getElem? (i := 1126) (by decide +kernel)⟩
theorem lw_p40 : lw_okq (⟨"EchoGorge$Guess", "searchAll", "(LEchoGorge$Gorge;LEchoGorge$Scene;LEchoGorge$Hearing;)V"⟩, 8) := ⟨⟨by decide +kernel, by decide +kernel⟩, List.mem_of_getElem? (i := 425) (by decide +kernel), List.mem_of_getElem? (i := 1164) (by decide +kernel), List.mem_of_getElem? (i := 1165) (by decide +kernel)⟩
theorem lw_p41 : lw_okq (⟨"EchoGorge$Guess", "firstMiss", "(LEchoGorge$Gorge;LEchoGorge$Scene;LEchoGorge$Hearing;)I"⟩, 8) := ⟨⟨by decide +kernel, by decide +kernel⟩, List.mem_of_getElem? (i := 425) (by decide +kernel), List.mem_of_getElem? (i := 1173) (by decide +kernel), List.mem_of_getElem? (i := 1174) (by decide +kernel)⟩
theorem lw_p42 : lw_okq (⟨"EchoGorge$Guess", "take", "(II)V"⟩, 8) := ⟨⟨by decide +kernel, by decide +kernel⟩, List.mem_of_getElem? (i := 425) (by decide +kernel), List.mem_of_getElem? (i := 1180) (by decide +kernel), List.mem_of_getElem? (i := 1181) (by decide +kernel)⟩
theorem lw_p43 : lw_okq (⟨"EchoGorge$Guess", "findNext", "(LEchoGorge$Gorge;)V"⟩, 8) := ⟨⟨by decide +kernel, by decide +kernel⟩, List.mem_of_getElem? (i := 425) (by decide +kernel), List.mem_of_getElem? (i := 1185) (by decide +kernel), List.mem_of_getElem? (i := 1186) (by decide +kernel)⟩
theorem lw_p44 : lw_okq (⟨"EchoGorge$Guess", "greatestGroup", "(LEchoGorge$Gorge;I)I"⟩, 8) := ⟨⟨by decide +kernel, by decide +kernel⟩, List.mem_of_getElem? (i := 425) (by decide +kernel), List.mem_of_getElem? (i := 1189) (by decide +kernel), List.mem_of_getElem? (i := 1190) (by decide +kernel)⟩
theorem lw_p45 : lw_okq (⟨"EchoGorge$Truth", "isHeardAsTold", "(III)Z"⟩, 9) := ⟨⟨by decide +kernel, by decide +kernel⟩, List.mem_of_getElem? (i := 459) (by decide +kernel), List.mem_of_getElem? (i := 1205) (by decide +kernel), List.mem_of_getElem? (i := 1206) (by decide +kernel)⟩
theorem lw_p46 : lw_okq (⟨"EchoGorge$Truth", "search", "(III)V"⟩, 9) := ⟨⟨by decide +kernel, by decide +kernel⟩, List.mem_of_getElem? (i := 459) (by decide +kernel), List.mem_of_getElem? (i := 1212) (by decide +kernel), List.mem_of_getElem? (i := 1213) (by decide +kernel)⟩
theorem lw_p47 : lw_okq (⟨"EchoGorge$Truth", "take", "(I)V"⟩, 9) := ⟨⟨by decide +kernel, by decide +kernel⟩, List.mem_of_getElem? (i := 459) (by decide +kernel), List.mem_of_getElem? (i := 1216) (by decide +kernel), List.mem_of_getElem? (i := 1217) (by decide +kernel)⟩
def lw_privs_3 : List (MethodName × Nat) := [(⟨"EchoGorge$Verses", "fitsAt", "(II)Z"⟩, 16), (⟨"EchoGorge$Verses", "isLine", "()Z"⟩, 16), (⟨"EchoGorge$Verses", "fittingPlaces", "(I)I"⟩, 16), (⟨"EchoGorge$Verses", "layKind", "(II)I"⟩, 16), (⟨"EchoGorge$Verses", "answersNow", "(II)Z"⟩, 16), (⟨"EchoGorge$Verses", "searchFog", "(ILEchoGorge$Hearing;LEchoGorge$Returns;)I"⟩, 16), (⟨"EchoGorge$Verses", "changesShares", "(I)Z"⟩, 16), (⟨"EchoGorge$Chant", "listen", "(LEchoGorge$Gorge;LEchoGorge$Returns;LEchoGorge$Scene;II)I"⟩, 1), (⟨"EchoGorge$Guess", "searchAll", "(LEchoGorge$Gorge;LEchoGorge$Scene;LEchoGorge$Hearing;)V"⟩, 8), (⟨"EchoGorge$Guess", "firstMiss", "(LEchoGorge$Gorge;LEchoGorge$Scene;LEchoGorge$Hearing;)I"⟩, 8), (⟨"EchoGorge$Guess", "take", "(II)V"⟩, 8), (⟨"EchoGorge$Guess", "findNext", "(LEchoGorge$Gorge;)V"⟩, 8), (⟨"EchoGorge$Guess", "greatestGroup", "(LEchoGorge$Gorge;I)I"⟩, 8), (⟨"EchoGorge$Truth", "isHeardAsTold", "(III)Z"⟩, 9), (⟨"EchoGorge$Truth", "search", "(III)V"⟩, 9), (⟨"EchoGorge$Truth", "take", "(I)V"⟩, 9)]
theorem lw_r3 : ∀ q ∈ lw_privs_3, lw_okq q := List.forall_mem_cons.mpr ⟨lw_p32, List.forall_mem_cons.mpr ⟨lw_p33, List.forall_mem_cons.mpr ⟨lw_p34, List.forall_mem_cons.mpr ⟨lw_p35, List.forall_mem_cons.mpr ⟨lw_p36, List.forall_mem_cons.mpr ⟨lw_p37, List.forall_mem_cons.mpr ⟨lw_p38, List.forall_mem_cons.mpr ⟨lw_p39, List.forall_mem_cons.mpr ⟨lw_p40, List.forall_mem_cons.mpr ⟨lw_p41, List.forall_mem_cons.mpr ⟨lw_p42, List.forall_mem_cons.mpr ⟨lw_p43, List.forall_mem_cons.mpr ⟨lw_p44, List.forall_mem_cons.mpr ⟨lw_p45, List.forall_mem_cons.mpr ⟨lw_p46, List.forall_mem_cons.mpr ⟨lw_p47, fun _ h => absurd h List.not_mem_nil⟩⟩⟩⟩⟩⟩⟩⟩⟩⟩⟩⟩⟩⟩⟩⟩
theorem lw_p48 : lw_okq (⟨"EchoGorge$Places", "matches", "(LEchoGorge$Scene;IIII)Z"⟩, 2) := ⟨⟨by decide +kernel, by decide +kernel⟩, List.mem_of_getElem? (i := 494) (by decide +kernel), List.mem_of_getElem? (i := 1240) (by decide +kernel), List.mem_of_getElem? (i := 1241) (by decide +kernel)⟩
theorem lw_p49 : lw_okq (⟨"EchoGorge$Places", "ticksTo", "(LEchoGorge$Scene;III)I"⟩, 2) := ⟨⟨by decide +kernel, by decide +kernel⟩, List.mem_of_getElem? (i := 494) (by decide +kernel), List.mem_of_getElem? (i := 1244) (by decide +kernel), List.mem_of_getElem? (i := 1245) (by decide +kernel)⟩
theorem lw_p50 : lw_okq (⟨"EchoGorge$Places", "chartedNear", "(III)I"⟩, 2) := ⟨⟨by decide +kernel, by decide +kernel⟩, List.mem_of_getElem? (i := 494) (by decide +kernel), List.mem_of_getElem? (i := 1270) (by decide +kernel), List.mem_of_getElem? (i := 1271) (by decide +kernel)⟩
theorem lw_p51 : lw_okq (⟨"EchoGorge$Claps", "heardGaps", "(LEchoGorge$Hearing;)I"⟩, 5) := ⟨⟨by decide +kernel, by decide +kernel⟩, List.mem_of_getElem? (i := 507) (by decide +kernel), List.mem_of_getElem? (i := 1289) (by decide +kernel), List.mem_of_getElem? (i := 1290) (by decide +kernel)⟩
theorem lw_p52 : lw_okq (⟨"EchoGorge$Claps", "extend", "(II)V"⟩, 5) := ⟨⟨by decide +kernel, by decide +kernel⟩, List.mem_of_getElem? (i := 507) (by decide +kernel), List.mem_of_getElem? (i := 1300) (by decide +kernel), List.mem_of_getElem? (i := 1301) (by decide +kernel)⟩
theorem lw_p53 : lw_okq (⟨"EchoGorge$Claps", "weigh", "(I)V"⟩, 5) := ⟨⟨by decide +kernel, by decide +kernel⟩, List.mem_of_getElem? (i := 507) (by decide +kernel), List.mem_of_getElem? (i := 1305) (by decide +kernel), List.mem_of_getElem? (i := 1306) (by decide +kernel)⟩
theorem lw_p54 : lw_okq (⟨"EchoGorgeModel", "lays", "(I)V"⟩, 87) := ⟨⟨by decide +kernel, by decide +kernel⟩, List.mem_of_getElem? (i := 1310) (by decide +kernel), List.mem_of_getElem? (i := 1588) (by decide +kernel), List.mem_of_getElem? (i := 1589) (by decide +kernel)⟩
theorem lw_p55 : lw_okq (⟨"EchoGorgeModel", "right", "(ZI)Z"⟩, 87) := ⟨⟨by decide +kernel, by decide +kernel⟩, List.mem_of_getElem? (i := 1310) (by decide +kernel), List.mem_of_getElem? (i := 1596) (by decide +kernel), List.mem_of_getElem? (i := 1597) (by decide +kernel)⟩
theorem lw_p56 : lw_okq (⟨"EchoGorgeModel", "steps", "()V"⟩, 87) := ⟨⟨by decide +kernel, by decide +kernel⟩, List.mem_of_getElem? (i := 1310) (by decide +kernel), List.mem_of_getElem? (i := 1600) (by decide +kernel), List.mem_of_getElem? (i := 1601) (by decide +kernel)⟩
theorem lw_p57 : lw_okq (⟨"EchoGorgeModel", "byteAt", "(I)I"⟩, 87) := ⟨⟨by decide +kernel, by decide +kernel⟩, List.mem_of_getElem? (i := 1310) (by decide +kernel), List.mem_of_getElem? (i := 1604) (by decide +kernel), List.mem_of_getElem? (i := 1605) (by decide +kernel)⟩
theorem lw_p58 : lw_okq (⟨"EchoGorgeModel", "isGood", "()Z"⟩, 87) := ⟨⟨by decide +kernel, by decide +kernel⟩, List.mem_of_getElem? (i := 1310) (by decide +kernel), List.mem_of_getElem? (i := 1614) (by decide +kernel), List.mem_of_getElem? (i := 1615) (by decide +kernel)⟩
theorem lw_p59 : lw_okq (⟨"EchoGorgeModel", "line", "()V"⟩, 87) := ⟨⟨by decide +kernel, by decide +kernel⟩, List.mem_of_getElem? (i := 1310) (by decide +kernel), List.mem_of_getElem? (i := 1618) (by decide +kernel), List.mem_of_getElem? (i := 1619) (by decide +kernel)⟩
theorem lw_p60 : lw_okq (⟨"EchoGorgeModel", "is", "(I)Z"⟩, 87) := ⟨⟨by decide +kernel, by decide +kernel⟩, List.mem_of_getElem? (i := 1310) (by decide +kernel), List.mem_of_getElem? (i := 1622) (by decide +kernel), List.mem_of_getElem? (i := 1623) (by decide +kernel)⟩
theorem lw_p61 : lw_okq (⟨"EchoGorgeModel", "wrong", "(I)V"⟩, 87) := ⟨⟨by decide +kernel, by decide +kernel⟩, List.mem_of_getElem? (i := 1310) (by decide +kernel), List.mem_of_getElem? (i := 1632) (by decide +kernel), List.mem_of_getElem? (i := 1633) (by decide +kernel)⟩
theorem lw_p62 : lw_okq (⟨"EchoGorgeModel", "number", "(II)I"⟩, 87) := ⟨⟨by decide +kernel, by decide +kernel⟩, List.mem_of_getElem? (i := 1310) (by decide +kernel), List.mem_of_getElem? (i := 1636) (by decide +kernel), List.mem_of_getElem? (i := 1637) (by decide +kernel)⟩
theorem lw_p63 : lw_okq (⟨"EchoGorgeModel", "readsWall", "()V"⟩, 87) := ⟨⟨by decide +kernel, by decide +kernel⟩, List.mem_of_getElem? (i := 1310) (by decide +kernel), List.mem_of_getElem? (i := 1640) (by decide +kernel), List.mem_of_getElem? (i := 1641) (by decide +kernel)⟩
def lw_privs_4 : List (MethodName × Nat) := [(⟨"EchoGorge$Places", "matches", "(LEchoGorge$Scene;IIII)Z"⟩, 2), (⟨"EchoGorge$Places", "ticksTo", "(LEchoGorge$Scene;III)I"⟩, 2), (⟨"EchoGorge$Places", "chartedNear", "(III)I"⟩, 2), (⟨"EchoGorge$Claps", "heardGaps", "(LEchoGorge$Hearing;)I"⟩, 5), (⟨"EchoGorge$Claps", "extend", "(II)V"⟩, 5), (⟨"EchoGorge$Claps", "weigh", "(I)V"⟩, 5), (⟨"EchoGorgeModel", "lays", "(I)V"⟩, 87), (⟨"EchoGorgeModel", "right", "(ZI)Z"⟩, 87), (⟨"EchoGorgeModel", "steps", "()V"⟩, 87), (⟨"EchoGorgeModel", "byteAt", "(I)I"⟩, 87), (⟨"EchoGorgeModel", "isGood", "()Z"⟩, 87), (⟨"EchoGorgeModel", "line", "()V"⟩, 87), (⟨"EchoGorgeModel", "is", "(I)Z"⟩, 87), (⟨"EchoGorgeModel", "wrong", "(I)V"⟩, 87), (⟨"EchoGorgeModel", "number", "(II)I"⟩, 87), (⟨"EchoGorgeModel", "readsWall", "()V"⟩, 87)]
theorem lw_r4 : ∀ q ∈ lw_privs_4, lw_okq q := List.forall_mem_cons.mpr ⟨lw_p48, List.forall_mem_cons.mpr ⟨lw_p49, List.forall_mem_cons.mpr ⟨lw_p50, List.forall_mem_cons.mpr ⟨lw_p51, List.forall_mem_cons.mpr ⟨lw_p52, List.forall_mem_cons.mpr ⟨lw_p53, List.forall_mem_cons.mpr ⟨lw_p54, List.forall_mem_cons.mpr ⟨lw_p55, List.forall_mem_cons.mpr ⟨lw_p56, List.forall_mem_cons.mpr ⟨lw_p57, List.forall_mem_cons.mpr ⟨lw_p58, List.forall_mem_cons.mpr ⟨lw_p59, List.forall_mem_cons.mpr ⟨lw_p60, List.forall_mem_cons.mpr ⟨lw_p61, List.forall_mem_cons.mpr ⟨lw_p62, List.forall_mem_cons.mpr ⟨lw_p63, fun _ h => absurd h List.not_mem_nil⟩⟩⟩⟩⟩⟩⟩⟩⟩⟩⟩⟩⟩⟩⟩⟩
theorem lw_p64 : lw_okq (⟨"EchoGorgeModel", "readsAir", "()V"⟩, 87) := ⟨⟨by decide +kernel, by decide +kernel⟩, List.mem_of_getElem? (i := 1310) (by decide +kernel), List.mem_of_getElem? (i := 1644) (by decide +kernel), List.mem_of_getElem? (i := 1645) (by decide +kernel)⟩
theorem lw_p65 : lw_okq (⟨"EchoGorgeModel", "readsSweet", "()V"⟩, 87) := ⟨⟨by decide +kernel, by decide +kernel⟩, List.mem_of_getElem? (i := 1310) (by decide +kernel), List.mem_of_getElem? (i := 1648) (by decide +kernel), List.mem_of_getElem? (i := 1649) (by decide +kernel)⟩
theorem lw_p66 : lw_okq (⟨"EchoGorgeModel", "soundHere", "()Z"⟩, 87) := ⟨⟨by decide +kernel, by decide +kernel⟩, List.mem_of_getElem? (i := 1310) (by decide +kernel), List.mem_of_getElem? (i := 1652) (by decide +kernel), List.mem_of_getElem? (i := 1653) (by decide +kernel)⟩
theorem lw_p67 : lw_okq (⟨"EchoGorgeModel", "readsWord", "()V"⟩, 87) := ⟨⟨by decide +kernel, by decide +kernel⟩, List.mem_of_getElem? (i := 1310) (by decide +kernel), List.mem_of_getElem? (i := 1656) (by decide +kernel), List.mem_of_getElem? (i := 1657) (by decide +kernel)⟩
theorem lw_p68 : lw_okq (⟨"EchoGorgeModel", "readsForm", "()V"⟩, 87) := ⟨⟨by decide +kernel, by decide +kernel⟩, List.mem_of_getElem? (i := 1310) (by decide +kernel), List.mem_of_getElem? (i := 1660) (by decide +kernel), List.mem_of_getElem? (i := 1661) (by decide +kernel)⟩
theorem lw_p69 : lw_okq (⟨"EchoGorgeModel", "need", "(Z)V"⟩, 87) := ⟨⟨by decide +kernel, by decide +kernel⟩, List.mem_of_getElem? (i := 1310) (by decide +kernel), List.mem_of_getElem? (i := 1664) (by decide +kernel), List.mem_of_getElem? (i := 1665) (by decide +kernel)⟩
theorem lw_p70 : lw_okq (⟨"EchoGorgeModel", "copies", "([I[I)V"⟩, 87) := ⟨⟨by decide +kernel, by decide +kernel⟩, List.mem_of_getElem? (i := 1310) (by decide +kernel), List.mem_of_getElem? (i := 1668) (by decide +kernel), List.mem_of_getElem? (i := 1669) (by decide +kernel)⟩
theorem lw_p71 : lw_okq (⟨"EchoGorgeModel", "allLines", "()I"⟩, 87) := ⟨⟨by decide +kernel, by decide +kernel⟩, List.mem_of_getElem? (i := 1310) (by decide +kernel), List.mem_of_getElem? (i := 1683) (by decide +kernel), List.mem_of_getElem? (i := 1684) (by decide +kernel)⟩
theorem lw_p72 : lw_okq (⟨"EchoGorgeModel", "linesOf", "(I)I"⟩, 87) := ⟨⟨by decide +kernel, by decide +kernel⟩, List.mem_of_getElem? (i := 1310) (by decide +kernel), List.mem_of_getElem? (i := 1687) (by decide +kernel), List.mem_of_getElem? (i := 1688) (by decide +kernel)⟩
theorem lw_p73 : lw_okq (⟨"EchoGorgeModel", "kindOf", "(II)I"⟩, 87) := ⟨⟨by decide +kernel, by decide +kernel⟩, List.mem_of_getElem? (i := 1310) (by decide +kernel), List.mem_of_getElem? (i := 1691) (by decide +kernel), List.mem_of_getElem? (i := 1692) (by decide +kernel)⟩
theorem lw_p74 : lw_okq (⟨"EchoGorgeModel", "wordsOf", "(I)I"⟩, 87) := ⟨⟨by decide +kernel, by decide +kernel⟩, List.mem_of_getElem? (i := 1310) (by decide +kernel), List.mem_of_getElem? (i := 1695) (by decide +kernel), List.mem_of_getElem? (i := 1696) (by decide +kernel)⟩
theorem lw_p75 : lw_okq (⟨"EchoGorgeModel", "isSound", "(I)Z"⟩, 87) := ⟨⟨by decide +kernel, by decide +kernel⟩, List.mem_of_getElem? (i := 1310) (by decide +kernel), List.mem_of_getElem? (i := 1711) (by decide +kernel), List.mem_of_getElem? (i := 1712) (by decide +kernel)⟩
theorem lw_p76 : lw_okq (⟨"EchoGorgeModel", "isWhere", "(III)Z"⟩, 87) := ⟨⟨by decide +kernel, by decide +kernel⟩, List.mem_of_getElem? (i := 1310) (by decide +kernel), List.mem_of_getElem? (i := 1723) (by decide +kernel), List.mem_of_getElem? (i := 1724) (by decide +kernel)⟩
theorem lw_p77 : lw_okq (⟨"EchoGorgeModel", "allSaid", "(III)V"⟩, 87) := ⟨⟨by decide +kernel, by decide +kernel⟩, List.mem_of_getElem? (i := 1310) (by decide +kernel), List.mem_of_getElem? (i := 1727) (by decide +kernel), List.mem_of_getElem? (i := 1728) (by decide +kernel)⟩
theorem lw_p78 : lw_okq (⟨"EchoGorgeModel", "opens", "(III)V"⟩, 87) := ⟨⟨by decide +kernel, by decide +kernel⟩, List.mem_of_getElem? (i := 1310) (by decide +kernel), List.mem_of_getElem? (i := 1731) (by decide +kernel), List.mem_of_getElem? (i := 1732) (by decide +kernel)⟩
theorem lw_p79 : lw_okq (⟨"EchoGorgeModel", "says", "(II)V"⟩, 87) := ⟨⟨by decide +kernel, by decide +kernel⟩, List.mem_of_getElem? (i := 1310) (by decide +kernel), List.mem_of_getElem? (i := 1735) (by decide +kernel), List.mem_of_getElem? (i := 1736) (by decide +kernel)⟩
def lw_privs_5 : List (MethodName × Nat) := [(⟨"EchoGorgeModel", "readsAir", "()V"⟩, 87), (⟨"EchoGorgeModel", "readsSweet", "()V"⟩, 87), (⟨"EchoGorgeModel", "soundHere", "()Z"⟩, 87), (⟨"EchoGorgeModel", "readsWord", "()V"⟩, 87), (⟨"EchoGorgeModel", "readsForm", "()V"⟩, 87), (⟨"EchoGorgeModel", "need", "(Z)V"⟩, 87), (⟨"EchoGorgeModel", "copies", "([I[I)V"⟩, 87), (⟨"EchoGorgeModel", "allLines", "()I"⟩, 87), (⟨"EchoGorgeModel", "linesOf", "(I)I"⟩, 87), (⟨"EchoGorgeModel", "kindOf", "(II)I"⟩, 87), (⟨"EchoGorgeModel", "wordsOf", "(I)I"⟩, 87), (⟨"EchoGorgeModel", "isSound", "(I)Z"⟩, 87), (⟨"EchoGorgeModel", "isWhere", "(III)Z"⟩, 87), (⟨"EchoGorgeModel", "allSaid", "(III)V"⟩, 87), (⟨"EchoGorgeModel", "opens", "(III)V"⟩, 87), (⟨"EchoGorgeModel", "says", "(II)V"⟩, 87)]
theorem lw_r5 : ∀ q ∈ lw_privs_5, lw_okq q := List.forall_mem_cons.mpr ⟨lw_p64, List.forall_mem_cons.mpr ⟨lw_p65, List.forall_mem_cons.mpr ⟨lw_p66, List.forall_mem_cons.mpr ⟨lw_p67, List.forall_mem_cons.mpr ⟨lw_p68, List.forall_mem_cons.mpr ⟨lw_p69, List.forall_mem_cons.mpr ⟨lw_p70, List.forall_mem_cons.mpr ⟨lw_p71, List.forall_mem_cons.mpr ⟨lw_p72, List.forall_mem_cons.mpr ⟨lw_p73, List.forall_mem_cons.mpr ⟨lw_p74, List.forall_mem_cons.mpr ⟨lw_p75, List.forall_mem_cons.mpr ⟨lw_p76, List.forall_mem_cons.mpr ⟨lw_p77, List.forall_mem_cons.mpr ⟨lw_p78, List.forall_mem_cons.mpr ⟨lw_p79, fun _ h => absurd h List.not_mem_nil⟩⟩⟩⟩⟩⟩⟩⟩⟩⟩⟩⟩⟩⟩⟩⟩
theorem lw_p80 : lw_okq (⟨"EchoGorgeModel", "comes", "(III)V"⟩, 87) := ⟨⟨by decide +kernel, by decide +kernel⟩, List.mem_of_getElem? (i := 1310) (by decide +kernel), List.mem_of_getElem? (i := 1739) (by decide +kernel), List.mem_of_getElem? (i := 1740) (by decide +kernel)⟩
theorem lw_p81 : lw_okq (⟨"EchoGorgeModel", "hears", "(I)I"⟩, 87) := ⟨⟨by decide +kernel, by decide +kernel⟩, List.mem_of_getElem? (i := 1310) (by decide +kernel), List.mem_of_getElem? (i := 1743) (by decide +kernel), List.mem_of_getElem? (i := 1744) (by decide +kernel)⟩
theorem lw_p82 : lw_okq (⟨"EchoGorgeModel", "isHour", "(I)Z"⟩, 87) := ⟨⟨by decide +kernel, by decide +kernel⟩, List.mem_of_getElem? (i := 1310) (by decide +kernel), List.mem_of_getElem? (i := 1755) (by decide +kernel), List.mem_of_getElem? (i := 1756) (by decide +kernel)⟩
theorem lw_p83 : lw_okq (⟨"EchoGorgeModel", "goesThrough", "(I)V"⟩, 87) := ⟨⟨by decide +kernel, by decide +kernel⟩, List.mem_of_getElem? (i := 1310) (by decide +kernel), List.mem_of_getElem? (i := 1759) (by decide +kernel), List.mem_of_getElem? (i := 1760) (by decide +kernel)⟩
theorem lw_p84 : lw_okq (⟨"EchoGorgeModel", "firstLine", "()Z"⟩, 87) := ⟨⟨by decide +kernel, by decide +kernel⟩, List.mem_of_getElem? (i := 1310) (by decide +kernel), List.mem_of_getElem? (i := 1763) (by decide +kernel), List.mem_of_getElem? (i := 1764) (by decide +kernel)⟩
theorem lw_p85 : lw_okq (⟨"EchoGorgeModel", "nextForm", "()Z"⟩, 87) := ⟨⟨by decide +kernel, by decide +kernel⟩, List.mem_of_getElem? (i := 1310) (by decide +kernel), List.mem_of_getElem? (i := 1767) (by decide +kernel), List.mem_of_getElem? (i := 1768) (by decide +kernel)⟩
theorem lw_p86 : lw_okq (⟨"EchoGorgeModel", "wordBehind", "(II)I"⟩, 87) := ⟨⟨by decide +kernel, by decide +kernel⟩, List.mem_of_getElem? (i := 1310) (by decide +kernel), List.mem_of_getElem? (i := 1771) (by decide +kernel), List.mem_of_getElem? (i := 1772) (by decide +kernel)⟩
theorem lw_p87 : lw_okq (⟨"EchoGorgeModel", "answers", "(I)Z"⟩, 87) := ⟨⟨by decide +kernel, by decide +kernel⟩, List.mem_of_getElem? (i := 1310) (by decide +kernel), List.mem_of_getElem? (i := 1775) (by decide +kernel), List.mem_of_getElem? (i := 1776) (by decide +kernel)⟩
theorem lw_p88 : lw_okq (⟨"EchoGorgeModel", "returns", "(I)V"⟩, 87) := ⟨⟨by decide +kernel, by decide +kernel⟩, List.mem_of_getElem? (i := 1310) (by decide +kernel), List.mem_of_getElem? (i := 1779) (by decide +kernel), List.mem_of_getElem? (i := 1780) (by decide +kernel)⟩
theorem lw_p89 : lw_okq (⟨"EchoGorgeModel", "speaks", "()V"⟩, 87) := ⟨⟨by decide +kernel, by decide +kernel⟩, List.mem_of_getElem? (i := 1310) (by decide +kernel), List.mem_of_getElem? (i := 1783) (by decide +kernel), List.mem_of_getElem? (i := 1784) (by decide +kernel)⟩
theorem lw_p90 : lw_okq (⟨"EchoGorgeModel", "isLine", "()Z"⟩, 87) := ⟨⟨by decide +kernel, by decide +kernel⟩, List.mem_of_getElem? (i := 1310) (by decide +kernel), List.mem_of_getElem? (i := 1787) (by decide +kernel), List.mem_of_getElem? (i := 1788) (by decide +kernel)⟩
theorem lw_p91 : lw_okq (⟨"EchoGorgeModel", "isWordAt", "(II)Z"⟩, 87) := ⟨⟨by decide +kernel, by decide +kernel⟩, List.mem_of_getElem? (i := 1310) (by decide +kernel), List.mem_of_getElem? (i := 1791) (by decide +kernel), List.mem_of_getElem? (i := 1792) (by decide +kernel)⟩
theorem lw_p92 : lw_okq (⟨"EchoGorgeModel", "isEchoed", "()Z"⟩, 87) := ⟨⟨by decide +kernel, by decide +kernel⟩, List.mem_of_getElem? (i := 1310) (by decide +kernel), List.mem_of_getElem? (i := 1795) (by decide +kernel), List.mem_of_getElem? (i := 1796) (by decide +kernel)⟩
theorem lw_p93 : lw_okq (⟨"EchoGorgeModel", "nextLine", "()Z"⟩, 87) := ⟨⟨by decide +kernel, by decide +kernel⟩, List.mem_of_getElem? (i := 1310) (by decide +kernel), List.mem_of_getElem? (i := 1799) (by decide +kernel), List.mem_of_getElem? (i := 1800) (by decide +kernel)⟩
theorem lw_p94 : lw_okq (⟨"EchoGorgeModel", "stillOf", "(IIII)I"⟩, 87) := ⟨⟨by decide +kernel, by decide +kernel⟩, List.mem_of_getElem? (i := 1310) (by decide +kernel), List.mem_of_getElem? (i := 1814) (by decide +kernel), List.mem_of_getElem? (i := 1815) (by decide +kernel)⟩
theorem lw_p95 : lw_okq (⟨"EchoGorgeModel", "clashes", "(I)I"⟩, 87) := ⟨⟨by decide +kernel, by decide +kernel⟩, List.mem_of_getElem? (i := 1310) (by decide +kernel), List.mem_of_getElem? (i := 1834) (by decide +kernel), List.mem_of_getElem? (i := 1835) (by decide +kernel)⟩
def lw_privs_6 : List (MethodName × Nat) := [(⟨"EchoGorgeModel", "comes", "(III)V"⟩, 87), (⟨"EchoGorgeModel", "hears", "(I)I"⟩, 87), (⟨"EchoGorgeModel", "isHour", "(I)Z"⟩, 87), (⟨"EchoGorgeModel", "goesThrough", "(I)V"⟩, 87), (⟨"EchoGorgeModel", "firstLine", "()Z"⟩, 87), (⟨"EchoGorgeModel", "nextForm", "()Z"⟩, 87), (⟨"EchoGorgeModel", "wordBehind", "(II)I"⟩, 87), (⟨"EchoGorgeModel", "answers", "(I)Z"⟩, 87), (⟨"EchoGorgeModel", "returns", "(I)V"⟩, 87), (⟨"EchoGorgeModel", "speaks", "()V"⟩, 87), (⟨"EchoGorgeModel", "isLine", "()Z"⟩, 87), (⟨"EchoGorgeModel", "isWordAt", "(II)Z"⟩, 87), (⟨"EchoGorgeModel", "isEchoed", "()Z"⟩, 87), (⟨"EchoGorgeModel", "nextLine", "()Z"⟩, 87), (⟨"EchoGorgeModel", "stillOf", "(IIII)I"⟩, 87), (⟨"EchoGorgeModel", "clashes", "(I)I"⟩, 87)]
theorem lw_r6 : ∀ q ∈ lw_privs_6, lw_okq q := List.forall_mem_cons.mpr ⟨lw_p80, List.forall_mem_cons.mpr ⟨lw_p81, List.forall_mem_cons.mpr ⟨lw_p82, List.forall_mem_cons.mpr ⟨lw_p83, List.forall_mem_cons.mpr ⟨lw_p84, List.forall_mem_cons.mpr ⟨lw_p85, List.forall_mem_cons.mpr ⟨lw_p86, List.forall_mem_cons.mpr ⟨lw_p87, List.forall_mem_cons.mpr ⟨lw_p88, List.forall_mem_cons.mpr ⟨lw_p89, List.forall_mem_cons.mpr ⟨lw_p90, List.forall_mem_cons.mpr ⟨lw_p91, List.forall_mem_cons.mpr ⟨lw_p92, List.forall_mem_cons.mpr ⟨lw_p93, List.forall_mem_cons.mpr ⟨lw_p94, List.forall_mem_cons.mpr ⟨lw_p95, fun _ h => absurd h List.not_mem_nil⟩⟩⟩⟩⟩⟩⟩⟩⟩⟩⟩⟩⟩⟩⟩⟩
theorem lw_p96 : lw_okq (⟨"EchoGorgeModel", "finds", "(I)V"⟩, 87) := ⟨⟨by decide +kernel, by decide +kernel⟩, List.mem_of_getElem? (i := 1310) (by decide +kernel), List.mem_of_getElem? (i := 1850) (by decide +kernel), List.mem_of_getElem? (i := 1851) (by decide +kernel)⟩
theorem lw_p97 : lw_okq (⟨"EchoGorgeModel", "saysBy", "(IIII)V"⟩, 87) := ⟨⟨by decide +kernel, by decide +kernel⟩, List.mem_of_getElem? (i := 1310) (by decide +kernel), List.mem_of_getElem? (i := 1855) (by decide +kernel), List.mem_of_getElem? (i := 1856) (by decide +kernel)⟩
theorem lw_p98 : lw_okq (⟨"EchoGorgeModel", "isTold", "()Z"⟩, 87) := ⟨⟨by decide +kernel, by decide +kernel⟩, List.mem_of_getElem? (i := 1310) (by decide +kernel), List.mem_of_getElem? (i := 1859) (by decide +kernel), List.mem_of_getElem? (i := 1860) (by decide +kernel)⟩
theorem lw_p99 : lw_okq (⟨"EchoGorgeModel", "toldAt", "(I)I"⟩, 87) := ⟨⟨by decide +kernel, by decide +kernel⟩, List.mem_of_getElem? (i := 1310) (by decide +kernel), List.mem_of_getElem? (i := 1863) (by decide +kernel), List.mem_of_getElem? (i := 1864) (by decide +kernel)⟩
theorem lw_p100 : lw_okq (⟨"EchoGorgeModel", "group", "(II)I"⟩, 87) := ⟨⟨by decide +kernel, by decide +kernel⟩, List.mem_of_getElem? (i := 1310) (by decide +kernel), List.mem_of_getElem? (i := 1871) (by decide +kernel), List.mem_of_getElem? (i := 1872) (by decide +kernel)⟩
theorem lw_p101 : lw_okq (⟨"EchoGorgeModel", "matches", "(III)Z"⟩, 87) := ⟨⟨by decide +kernel, by decide +kernel⟩, List.mem_of_getElem? (i := 1310) (by decide +kernel), List.mem_of_getElem? (i := 1887) (by decide +kernel), List.mem_of_getElem? (i := 1888) (by decide +kernel)⟩
theorem lw_p102 : lw_okq (⟨"EchoGorgeModel", "ticksTo", "(II)I"⟩, 87) := ⟨⟨by decide +kernel, by decide +kernel⟩, List.mem_of_getElem? (i := 1310) (by decide +kernel), List.mem_of_getElem? (i := 1891) (by decide +kernel), List.mem_of_getElem? (i := 1892) (by decide +kernel)⟩
theorem lw_p103 : lw_okq (⟨"EchoGorgeModel", "falls", "(I)V"⟩, 87) := ⟨⟨by decide +kernel, by decide +kernel⟩, List.mem_of_getElem? (i := 1310) (by decide +kernel), List.mem_of_getElem? (i := 1903) (by decide +kernel), List.mem_of_getElem? (i := 1904) (by decide +kernel)⟩
def lw_privs_7 : List (MethodName × Nat) := [(⟨"EchoGorgeModel", "finds", "(I)V"⟩, 87), (⟨"EchoGorgeModel", "saysBy", "(IIII)V"⟩, 87), (⟨"EchoGorgeModel", "isTold", "()Z"⟩, 87), (⟨"EchoGorgeModel", "toldAt", "(I)I"⟩, 87), (⟨"EchoGorgeModel", "group", "(II)I"⟩, 87), (⟨"EchoGorgeModel", "matches", "(III)Z"⟩, 87), (⟨"EchoGorgeModel", "ticksTo", "(II)I"⟩, 87), (⟨"EchoGorgeModel", "falls", "(I)V"⟩, 87)]
theorem lw_r7 : ∀ q ∈ lw_privs_7, lw_okq q := List.forall_mem_cons.mpr ⟨lw_p96, List.forall_mem_cons.mpr ⟨lw_p97, List.forall_mem_cons.mpr ⟨lw_p98, List.forall_mem_cons.mpr ⟨lw_p99, List.forall_mem_cons.mpr ⟨lw_p100, List.forall_mem_cons.mpr ⟨lw_p101, List.forall_mem_cons.mpr ⟨lw_p102, List.forall_mem_cons.mpr ⟨lw_p103, fun _ h => absurd h List.not_mem_nil⟩⟩⟩⟩⟩⟩⟩⟩
def lw_privs : List (MethodName × Nat) := lw_privs_1 ++ (lw_privs_2 ++ (lw_privs_3 ++ (lw_privs_4 ++ (lw_privs_5 ++ (lw_privs_6 ++ (lw_privs_7))))))
def lw_tbl : List Cond := k2_sels lw_privs ++ tables_1
theorem lw_privs_ok : ∀ q ∈ lw_privs, lw_okq q := by
  show ∀ q ∈ lw_privs_1 ++ (lw_privs_2 ++ (lw_privs_3 ++ (lw_privs_4 ++ (lw_privs_5 ++ (lw_privs_6 ++ (lw_privs_7)))))), lw_okq q
  exact List.forall_mem_append.mpr ⟨lw_r1, List.forall_mem_append.mpr ⟨lw_r2, List.forall_mem_append.mpr ⟨lw_r3, List.forall_mem_append.mpr ⟨lw_r4, List.forall_mem_append.mpr ⟨lw_r5, List.forall_mem_append.mpr ⟨lw_r6, lw_r7⟩⟩⟩⟩⟩⟩

def RX0 : String := "EchoGorge$Chant"
def TX0 : u_T := fun k => match k with
  | _ => ("EchoGorge$Chant", "sum", "[I", true)
def tyX0 : Nat → FieldType := fun k => match k with
  | _ => .array .int
abbrev wsX00 : List Cond := u_ws RX0 TX0 1
theorem nmX0 : ∀ a, a < 1 → ∀ b, b < 1 → a ≠ b → (TX0 a).2.1 ≠ (TX0 b).2.1 := by decide +kernel
theorem tyX0_ok : ∀ k, k < 1 → parseFieldDescriptor (TX0 k).2.2.1 = some (tyX0 k) := by decide +kernel
abbrev cX0_init : ByteArray := prog_2_method_1_code
def yX0_init : MethodName := ⟨RX0, "<init>", "()V"⟩
abbrev cX0_clashes : ByteArray := prog_2_method_2_code
def yX0_clashes : MethodName := ⟨RX0, "clashes", "(LEchoGorge$Gorge;LEchoGorge$Returns;LEchoGorge$Scene;I)I"⟩
abbrev cX0_rests : ByteArray := prog_2_method_3_code
def yX0_rests : MethodName := ⟨RX0, "rests", "(LEchoGorge$Gorge;LEchoGorge$Returns;LEchoGorge$Scene;)I"⟩
abbrev cX0_listen : ByteArray := prog_2_method_4_code
def yX0_listen : MethodName := ⟨RX0, "listen", "(LEchoGorge$Gorge;LEchoGorge$Returns;LEchoGorge$Scene;II)I"⟩
abbrev cX0_isClash : ByteArray := prog_2_method_5_code
def yX0_isClash : MethodName := ⟨RX0, "isClash", "(LEchoGorge$Gorge;I)Z"⟩
def RX1 : String := "EchoGorge$Claps"
def TX1 : u_T := fun k => match k with
  | 0 => ("EchoGorge$Claps", "together", "[I", true)
  | 1 => ("EchoGorge$Claps", "said", "[I", true)
  | 2 => ("EchoGorge$Claps", "best", "I", false)
  | 3 => ("EchoGorge$Claps", "bestMany", "I", false)
  | _ => ("EchoGorge$Claps", "bestSum", "I", false)
def tyX1 : Nat → FieldType := fun k => match k with
  | 0 => .array .int
  | 1 => .array .int
  | 2 => .int
  | 3 => .int
  | _ => .int
abbrev wsX10 : List Cond := u_ws RX1 TX1 5
theorem nmX1 : ∀ a, a < 5 → ∀ b, b < 5 → a ≠ b → (TX1 a).2.1 ≠ (TX1 b).2.1 := by decide +kernel
theorem tyX1_ok : ∀ k, k < 5 → parseFieldDescriptor (TX1 k).2.2.1 = some (tyX1 k) := by decide +kernel
abbrev cX1_init : ByteArray := prog_3_method_1_code
def yX1_init : MethodName := ⟨RX1, "<init>", "()V"⟩
abbrev cX1_compare : ByteArray := prog_3_method_2_code
def yX1_compare : MethodName := ⟨RX1, "compare", "(LEchoGorge$Gorge;LEchoGorge$Hearing;LEchoGorge$Returns;I)V"⟩
abbrev cX1_heardGaps : ByteArray := prog_3_method_3_code
def yX1_heardGaps : MethodName := ⟨RX1, "heardGaps", "(LEchoGorge$Hearing;)I"⟩
abbrev cX1_choose : ByteArray := prog_3_method_4_code
def yX1_choose : MethodName := ⟨RX1, "choose", "()I"⟩
abbrev cX1_extend : ByteArray := prog_3_method_5_code
def yX1_extend : MethodName := ⟨RX1, "extend", "(II)V"⟩
abbrev cX1_weigh : ByteArray := prog_3_method_6_code
def yX1_weigh : MethodName := ⟨RX1, "weigh", "(I)V"⟩
def RX2 : String := "EchoGorge$Gorge"
def TX2 : u_T := fun k => match k with
  | 0 => ("EchoGorge$Gorge", "sounds", "I", false)
  | 1 => ("EchoGorge$Gorge", "walls", "I", false)
  | 2 => ("EchoGorge$Gorge", "words", "I", false)
  | 3 => ("EchoGorge$Gorge", "forms", "I", false)
  | 4 => ("EchoGorge$Gorge", "least", "I", false)
  | 5 => ("EchoGorge$Gorge", "window", "I", false)
  | 6 => ("EchoGorge$Gorge", "margin", "I", false)
  | 7 => ("EchoGorge$Gorge", "loud", "[I", true)
  | 8 => ("EchoGorge$Gorge", "sort", "[I", true)
  | 9 => ("EchoGorge$Gorge", "sweet", "[I", true)
  | 10 => ("EchoGorge$Gorge", "delay", "[I", true)
  | 11 => ("EchoGorge$Gorge", "share", "[I", true)
  | 12 => ("EchoGorge$Gorge", "swallows", "[I", true)
  | 13 => ("EchoGorge$Gorge", "again", "[I", true)
  | 14 => ("EchoGorge$Gorge", "straight", "[I", true)
  | 15 => ("EchoGorge$Gorge", "air", "[I", true)
  | 16 => ("EchoGorge$Gorge", "kind", "[I", true)
  | 17 => ("EchoGorge$Gorge", "length", "[I", true)
  | 18 => ("EchoGorge$Gorge", "spelling", "[I", true)
  | 19 => ("EchoGorge$Gorge", "formLength", "[I", true)
  | _ => ("EchoGorge$Gorge", "formKind", "[I", true)
def tyX2 : Nat → FieldType := fun k => match k with
  | 0 => .int
  | 1 => .int
  | 2 => .int
  | 3 => .int
  | 4 => .int
  | 5 => .int
  | 6 => .int
  | 7 => .array .int
  | 8 => .array .int
  | 9 => .array .int
  | 10 => .array .int
  | 11 => .array .int
  | 12 => .array .int
  | 13 => .array .int
  | 14 => .array .int
  | 15 => .array .int
  | 16 => .array .int
  | 17 => .array .int
  | 18 => .array .int
  | 19 => .array .int
  | _ => .array .int
abbrev wsX20 : List Cond := u_ws RX2 TX2 21
theorem nmX2 : ∀ a, a < 21 → ∀ b, b < 21 → a ≠ b → (TX2 a).2.1 ≠ (TX2 b).2.1 := by decide +kernel
theorem tyX2_ok : ∀ k, k < 21 → parseFieldDescriptor (TX2 k).2.2.1 = some (tyX2 k) := by decide +kernel
abbrev cX2_init : ByteArray := prog_4_method_1_code
def yX2_init : MethodName := ⟨RX2, "<init>", "()V"⟩
abbrev cX2_clear : ByteArray := prog_4_method_2_code
def yX2_clear : MethodName := ⟨RX2, "clear", "()V"⟩
abbrev cX2_swallowsSound : ByteArray := prog_4_method_3_code
def yX2_swallowsSound : MethodName := ⟨RX2, "swallowsSound", "(II)Z"⟩
abbrev cX2_foggedShare : ByteArray := prog_4_method_4_code
def yX2_foggedShare : MethodName := ⟨RX2, "foggedShare", "(II)I"⟩
def RX3 : String := "EchoGorge$Guess"
def TX3 : u_T := fun k => match k with
  | 0 => ("EchoGorge$Guess", "answer", "[I", true)
  | 1 => ("EchoGorge$Guess", "returns", "LEchoGorge$Returns;", true)
  | 2 => ("EchoGorge$Guess", "isKnown", "Z", false)
  | 3 => ("EchoGorge$Guess", "knownShare", "I", false)
  | 4 => ("EchoGorge$Guess", "firstWalls", "I", false)
  | 5 => ("EchoGorge$Guess", "muffled", "I", false)
  | 6 => ("EchoGorge$Guess", "muffledRun", "I", false)
  | _ => ("EchoGorge$Guess", "muffledKey", "I", false)
def tyX3 : Nat → FieldType := fun k => match k with
  | 0 => .array .int
  | 1 => .object "EchoGorge$Returns"
  | 2 => .boolean
  | 3 => .int
  | 4 => .int
  | 5 => .int
  | 6 => .int
  | _ => .int
abbrev wsX30 : List Cond := u_ws RX3 TX3 8
theorem nmX3 : ∀ a, a < 8 → ∀ b, b < 8 → a ≠ b → (TX3 a).2.1 ≠ (TX3 b).2.1 := by decide +kernel
theorem tyX3_ok : ∀ k, k < 8 → parseFieldDescriptor (TX3 k).2.2.1 = some (tyX3 k) := by decide +kernel
abbrev cX3_init : ByteArray := prog_5_method_1_code
def yX3_init : MethodName := ⟨RX3, "<init>", "()V"⟩
abbrev cX3_forget : ByteArray := prog_5_method_2_code
def yX3_forget : MethodName := ⟨RX3, "forget", "()V"⟩
abbrev cX3_find : ByteArray := prog_5_method_3_code
def yX3_find : MethodName := ⟨RX3, "find", "(LEchoGorge$Gorge;LEchoGorge$Scene;LEchoGorge$Hearing;I)V"⟩
abbrev cX3_searchAll : ByteArray := prog_5_method_4_code
def yX3_searchAll : MethodName := ⟨RX3, "searchAll", "(LEchoGorge$Gorge;LEchoGorge$Scene;LEchoGorge$Hearing;)V"⟩
abbrev cX3_firstMiss : ByteArray := prog_5_method_5_code
def yX3_firstMiss : MethodName := ⟨RX3, "firstMiss", "(LEchoGorge$Gorge;LEchoGorge$Scene;LEchoGorge$Hearing;)I"⟩
abbrev cX3_take : ByteArray := prog_5_method_6_code
def yX3_take : MethodName := ⟨RX3, "take", "(II)V"⟩
abbrev cX3_findNext : ByteArray := prog_5_method_7_code
def yX3_findNext : MethodName := ⟨RX3, "findNext", "(LEchoGorge$Gorge;)V"⟩
abbrev cX3_greatestGroup : ByteArray := prog_5_method_8_code
def yX3_greatestGroup : MethodName := ⟨RX3, "greatestGroup", "(LEchoGorge$Gorge;I)I"⟩
def RX4 : String := "EchoGorge$Hearing"
def TX4 : u_T := fun k => match k with
  | 0 => ("EchoGorge$Hearing", "best", "[I", true)
  | 1 => ("EchoGorge$Hearing", "whose", "[I", true)
  | 2 => ("EchoGorge$Hearing", "sum", "[I", true)
  | 3 => ("EchoGorge$Hearing", "gorge", "LEchoGorge$Gorge;", false)
  | 4 => ("EchoGorge$Hearing", "returns", "LEchoGorge$Returns;", false)
  | 5 => ("EchoGorge$Hearing", "said", "[I", false)
  | 6 => ("EchoGorge$Hearing", "last", "I", false)
  | 7 => ("EchoGorge$Hearing", "low", "I", false)
  | _ => ("EchoGorge$Hearing", "high", "I", false)
def tyX4 : Nat → FieldType := fun k => match k with
  | 0 => .array .int
  | 1 => .array .int
  | 2 => .array .int
  | 3 => .object "EchoGorge$Gorge"
  | 4 => .object "EchoGorge$Returns"
  | 5 => .array .int
  | 6 => .int
  | 7 => .int
  | _ => .int
abbrev wsX40 : List Cond := u_ws RX4 TX4 9
theorem nmX4 : ∀ a, a < 9 → ∀ b, b < 9 → a ≠ b → (TX4 a).2.1 ≠ (TX4 b).2.1 := by decide +kernel
theorem tyX4_ok : ∀ k, k < 9 → parseFieldDescriptor (TX4 k).2.2.1 = some (tyX4 k) := by decide +kernel
abbrev cX4_init : ByteArray := prog_6_method_1_code
def yX4_init : MethodName := ⟨RX4, "<init>", "()V"⟩
abbrev cX4_attend : ByteArray := prog_6_method_2_code
def yX4_attend : MethodName := ⟨RX4, "attend", "(LEchoGorge$Gorge;LEchoGorge$Returns;[II)V"⟩
abbrev cX4_measure : ByteArray := prog_6_method_3_code
def yX4_measure : MethodName := ⟨RX4, "measure", "(I)V"⟩
abbrev cX4_hears : ByteArray := prog_6_method_4_code
def yX4_hears : MethodName := ⟨RX4, "hears", "(I)I"⟩
abbrev cX4_loudness : ByteArray := prog_6_method_5_code
def yX4_loudness : MethodName := ⟨RX4, "loudness", "(II)I"⟩
def RX5 : String := "EchoGorge$Places"
def TX5 : u_T := fun k => match k with
  | 0 => ("EchoGorge$Places", "ticks", "[I", true)
  | _ => ("EchoGorge$Places", "ahead", "[I", true)
def tyX5 : Nat → FieldType := fun k => match k with
  | 0 => .array .int
  | _ => .array .int
abbrev wsX50 : List Cond := u_ws RX5 TX5 2
theorem nmX5 : ∀ a, a < 2 → ∀ b, b < 2 → a ≠ b → (TX5 a).2.1 ≠ (TX5 b).2.1 := by decide +kernel
theorem tyX5_ok : ∀ k, k < 2 → parseFieldDescriptor (TX5 k).2.2.1 = some (tyX5 k) := by decide +kernel
abbrev cX5_init : ByteArray := prog_7_method_1_code
def yX5_init : MethodName := ⟨RX5, "<init>", "()V"⟩
abbrev cX5_ticksTo : ByteArray := prog_7_method_2_code
def yX5_ticksTo : MethodName := ⟨RX5, "ticksTo", "(LEchoGorge$Scene;III)I"⟩
abbrev cX5_matches : ByteArray := prog_7_method_3_code
def yX5_matches : MethodName := ⟨RX5, "matches", "(LEchoGorge$Scene;IIII)Z"⟩
abbrev cX5_countMatching : ByteArray := prog_7_method_4_code
def yX5_countMatching : MethodName := ⟨RX5, "countMatching", "(LEchoGorge$Scene;II)I"⟩
abbrev cX5_findMatching : ByteArray := prog_7_method_5_code
def yX5_findMatching : MethodName := ⟨RX5, "findMatching", "(LEchoGorge$Scene;III)I"⟩
abbrev cX5_chart : ByteArray := prog_7_method_6_code
def yX5_chart : MethodName := ⟨RX5, "chart", "(LEchoGorge$Scene;II)V"⟩
abbrev cX5_countCouples : ByteArray := prog_7_method_7_code
def yX5_countCouples : MethodName := ⟨RX5, "countCouples", "(LEchoGorge$Scene;III)I"⟩
abbrev cX5_chartedNear : ByteArray := prog_7_method_8_code
def yX5_chartedNear : MethodName := ⟨RX5, "chartedNear", "(III)I"⟩
def RX6 : String := "EchoGorge$Reader"
def TX6 : u_T := fun k => match k with
  | 0 => ("EchoGorge$Reader", "text", "[B", false)
  | 1 => ("EchoGorge$Reader", "end", "I", false)
  | 2 => ("EchoGorge$Reader", "gorge", "LEchoGorge$Gorge;", false)
  | 3 => ("EchoGorge$Reader", "token", "I", false)
  | 4 => ("EchoGorge$Reader", "place", "I", false)
  | 5 => ("EchoGorge$Reader", "behind", "I", false)
  | 6 => ("EchoGorge$Reader", "value", "I", false)
  | 7 => ("EchoGorge$Reader", "airTold", "I", false)
  | 8 => ("EchoGorge$Reader", "straightTold", "Z", false)
  | 9 => ("EchoGorge$Reader", "maskTold", "Z", false)
  | 10 => ("EchoGorge$Reader", "fault", "I", false)
  | _ => ("EchoGorge$Reader", "faultPlace", "I", false)
def tyX6 : Nat → FieldType := fun k => match k with
  | 0 => .array .byte
  | 1 => .int
  | 2 => .object "EchoGorge$Gorge"
  | 3 => .int
  | 4 => .int
  | 5 => .int
  | 6 => .int
  | 7 => .int
  | 8 => .boolean
  | 9 => .boolean
  | 10 => .int
  | _ => .int
abbrev wsX60 : List Cond := u_ws RX6 TX6 12
theorem nmX6 : ∀ a, a < 12 → ∀ b, b < 12 → a ≠ b → (TX6 a).2.1 ≠ (TX6 b).2.1 := by decide +kernel
theorem tyX6_ok : ∀ k, k < 12 → parseFieldDescriptor (TX6 k).2.2.1 = some (tyX6 k) := by decide +kernel
abbrev cX6_init : ByteArray := prog_8_method_1_code
def yX6_init : MethodName := ⟨RX6, "<init>", "()V"⟩
abbrev cX6_read : ByteArray := prog_8_method_2_code
def yX6_read : MethodName := ⟨RX6, "read", "([BILEchoGorge$Gorge;)I"⟩
abbrev cX6_fail : ByteArray := prog_8_method_3_code
def yX6_fail : MethodName := ⟨RX6, "fail", "(I)Z"⟩
abbrev cX6_step : ByteArray := prog_8_method_4_code
def yX6_step : MethodName := ⟨RX6, "step", "()V"⟩
abbrev cX6_isLetter : ByteArray := prog_8_method_5_code
def yX6_isLetter : MethodName := ⟨RX6, "isLetter", "(B)Z"⟩
abbrev cX6_isDigit : ByteArray := prog_8_method_6_code
def yX6_isDigit : MethodName := ⟨RX6, "isDigit", "(B)Z"⟩
abbrev cX6_spells : ByteArray := prog_8_method_7_code
def yX6_spells : MethodName := ⟨RX6, "spells", "(Ljava/lang/String;)Z"⟩
abbrev cX6_isNumber : ByteArray := prog_8_method_8_code
def yX6_isNumber : MethodName := ⟨RX6, "isNumber", "(II)Z"⟩
abbrev cX6_isToldSound : ByteArray := prog_8_method_9_code
def yX6_isToldSound : MethodName := ⟨RX6, "isToldSound", "()Z"⟩
abbrev cX6_readLine : ByteArray := prog_8_method_10_code
def yX6_readLine : MethodName := ⟨RX6, "readLine", "()Z"⟩
abbrev cX6_readEnd : ByteArray := prog_8_method_11_code
def yX6_readEnd : MethodName := ⟨RX6, "readEnd", "()Z"⟩
abbrev cX6_readSound : ByteArray := prog_8_method_12_code
def yX6_readSound : MethodName := ⟨RX6, "readSound", "()Z"⟩
abbrev cX6_readWall : ByteArray := prog_8_method_13_code
def yX6_readWall : MethodName := ⟨RX6, "readWall", "()Z"⟩
abbrev cX6_readSwallows : ByteArray := prog_8_method_14_code
def yX6_readSwallows : MethodName := ⟨RX6, "readSwallows", "(I)Z"⟩
abbrev cX6_readAgain : ByteArray := prog_8_method_15_code
def yX6_readAgain : MethodName := ⟨RX6, "readAgain", "(I)Z"⟩
abbrev cX6_readStraight : ByteArray := prog_8_method_16_code
def yX6_readStraight : MethodName := ⟨RX6, "readStraight", "()Z"⟩
abbrev cX6_readAir : ByteArray := prog_8_method_17_code
def yX6_readAir : MethodName := ⟨RX6, "readAir", "()Z"⟩
abbrev cX6_readMask : ByteArray := prog_8_method_18_code
def yX6_readMask : MethodName := ⟨RX6, "readMask", "()Z"⟩
abbrev cX6_readSweet : ByteArray := prog_8_method_19_code
def yX6_readSweet : MethodName := ⟨RX6, "readSweet", "()Z"⟩
abbrev cX6_readWord : ByteArray := prog_8_method_20_code
def yX6_readWord : MethodName := ⟨RX6, "readWord", "()Z"⟩
abbrev cX6_readForm : ByteArray := prog_8_method_21_code
def yX6_readForm : MethodName := ⟨RX6, "readForm", "()Z"⟩
def RX7 : String := "EchoGorge$Returns"
def TX7 : u_T := fun k => match k with
  | 0 => ("EchoGorge$Returns", "later", "[I", true)
  | 1 => ("EchoGorge$Returns", "loud", "[I", true)
  | 2 => ("EchoGorge$Returns", "many", "I", false)
  | 3 => ("EchoGorge$Returns", "fading", "[I", true)
  | 4 => ("EchoGorge$Returns", "isBuilt", "Z", false)
  | 5 => ("EchoGorge$Returns", "builtEar", "I", false)
  | 6 => ("EchoGorge$Returns", "builtAir", "I", false)
  | 7 => ("EchoGorge$Returns", "builtFog", "I", false)
  | _ => ("EchoGorge$Returns", "builtGone", "I", false)
def tyX7 : Nat → FieldType := fun k => match k with
  | 0 => .array .int
  | 1 => .array .int
  | 2 => .int
  | 3 => .array .int
  | 4 => .boolean
  | 5 => .int
  | 6 => .int
  | 7 => .int
  | _ => .int
abbrev wsX70 : List Cond := u_ws RX7 TX7 9
theorem nmX7 : ∀ a, a < 9 → ∀ b, b < 9 → a ≠ b → (TX7 a).2.1 ≠ (TX7 b).2.1 := by decide +kernel
theorem tyX7_ok : ∀ k, k < 9 → parseFieldDescriptor (TX7 k).2.2.1 = some (tyX7 k) := by decide +kernel
abbrev cX7_init : ByteArray := prog_9_method_1_code
def yX7_init : MethodName := ⟨RX7, "<init>", "()V"⟩
abbrev cX7_forget : ByteArray := prog_9_method_2_code
def yX7_forget : MethodName := ⟨RX7, "forget", "()V"⟩
abbrev cX7_build : ByteArray := prog_9_method_3_code
def yX7_build : MethodName := ⟨RX7, "build", "(LEchoGorge$Gorge;IIII)V"⟩
abbrev cX7_addWall : ByteArray := prog_9_method_4_code
def yX7_addWall : MethodName := ⟨RX7, "addWall", "(LEchoGorge$Gorge;I)V"⟩
abbrev cX7_place : ByteArray := prog_9_method_5_code
def yX7_place : MethodName := ⟨RX7, "place", "(I)I"⟩
abbrev cX7_longest : ByteArray := prog_9_method_6_code
def yX7_longest : MethodName := ⟨RX7, "longest", "()I"⟩
abbrev cX7_canReach : ByteArray := prog_9_method_7_code
def yX7_canReach : MethodName := ⟨RX7, "canReach", "(I)Z"⟩
abbrev cX7_prepareLike : ByteArray := prog_9_method_8_code
def yX7_prepareLike : MethodName := ⟨RX7, "prepareLike", "(LEchoGorge$Gorge;II)V"⟩
abbrev cX7_layDelays : ByteArray := prog_9_method_9_code
def yX7_layDelays : MethodName := ⟨RX7, "layDelays", "(III)V"⟩
def RX8 : String := "EchoGorge$Scene"
def TX8 : u_T := fun k => match k with
  | 0 => ("EchoGorge$Scene", "said", "[I", true)
  | 1 => ("EchoGorge$Scene", "saidMany", "I", false)
  | 2 => ("EchoGorge$Scene", "told", "[I", true)
  | 3 => ("EchoGorge$Scene", "toldMany", "I", false)
  | 4 => ("EchoGorge$Scene", "round", "[I", true)
  | 5 => ("EchoGorge$Scene", "roundLength", "I", false)
  | 6 => ("EchoGorge$Scene", "earX", "[I", true)
  | _ => ("EchoGorge$Scene", "earY", "[I", true)
def tyX8 : Nat → FieldType := fun k => match k with
  | 0 => .array .int
  | 1 => .int
  | 2 => .array .int
  | 3 => .int
  | 4 => .array .int
  | 5 => .int
  | 6 => .array .int
  | _ => .array .int
abbrev wsX80 : List Cond := u_ws RX8 TX8 8
theorem nmX8 : ∀ a, a < 8 → ∀ b, b < 8 → a ≠ b → (TX8 a).2.1 ≠ (TX8 b).2.1 := by decide +kernel
theorem tyX8_ok : ∀ k, k < 8 → parseFieldDescriptor (TX8 k).2.2.1 = some (tyX8 k) := by decide +kernel
abbrev cX8_init : ByteArray := prog_10_method_1_code
def yX8_init : MethodName := ⟨RX8, "<init>", "()V"⟩
abbrev cX8_clear : ByteArray := prog_10_method_2_code
def yX8_clear : MethodName := ⟨RX8, "clear", "()V"⟩
abbrev cX8_clearSaid : ByteArray := prog_10_method_3_code
def yX8_clearSaid : MethodName := ⟨RX8, "clearSaid", "()V"⟩
abbrev cX8_clearTold : ByteArray := prog_10_method_4_code
def yX8_clearTold : MethodName := ⟨RX8, "clearTold", "()V"⟩
abbrev cX8_addSaid : ByteArray := prog_10_method_5_code
def yX8_addSaid : MethodName := ⟨RX8, "addSaid", "(II)Z"⟩
abbrev cX8_copy : ByteArray := prog_10_method_6_code
def yX8_copy : MethodName := ⟨RX8, "copy", "(LEchoGorge$Scene;)V"⟩
def RX9 : String := "EchoGorge$Truth"
def TX9 : u_T := fun k => match k with
  | 0 => ("EchoGorge$Truth", "answer", "[I", true)
  | 1 => ("EchoGorge$Truth", "isKnown", "Z", false)
  | 2 => ("EchoGorge$Truth", "said", "[I", true)
  | 3 => ("EchoGorge$Truth", "spots", "[I", true)
  | 4 => ("EchoGorge$Truth", "many", "I", false)
  | 5 => ("EchoGorge$Truth", "gorge", "LEchoGorge$Gorge;", false)
  | 6 => ("EchoGorge$Truth", "scene", "LEchoGorge$Scene;", false)
  | 7 => ("EchoGorge$Truth", "hearing", "LEchoGorge$Hearing;", false)
  | _ => ("EchoGorge$Truth", "returns", "LEchoGorge$Returns;", false)
def tyX9 : Nat → FieldType := fun k => match k with
  | 0 => .array .int
  | 1 => .boolean
  | 2 => .array .int
  | 3 => .array .int
  | 4 => .int
  | 5 => .object "EchoGorge$Gorge"
  | 6 => .object "EchoGorge$Scene"
  | 7 => .object "EchoGorge$Hearing"
  | _ => .object "EchoGorge$Returns"
abbrev wsX90 : List Cond := u_ws RX9 TX9 9
theorem nmX9 : ∀ a, a < 9 → ∀ b, b < 9 → a ≠ b → (TX9 a).2.1 ≠ (TX9 b).2.1 := by decide +kernel
theorem tyX9_ok : ∀ k, k < 9 → parseFieldDescriptor (TX9 k).2.2.1 = some (tyX9 k) := by decide +kernel
abbrev cX9_init : ByteArray := prog_11_method_1_code
def yX9_init : MethodName := ⟨RX9, "<init>", "()V"⟩
abbrev cX9_forget : ByteArray := prog_11_method_2_code
def yX9_forget : MethodName := ⟨RX9, "forget", "()V"⟩
abbrev cX9_find : ByteArray := prog_11_method_3_code
def yX9_find : MethodName := ⟨RX9, "find", "(LEchoGorge$Gorge;LEchoGorge$Scene;LEchoGorge$Hearing;LEchoGorge$Returns;)V"⟩
abbrev cX9_search : ByteArray := prog_11_method_4_code
def yX9_search : MethodName := ⟨RX9, "search", "(III)V"⟩
abbrev cX9_isHeardAsTold : ByteArray := prog_11_method_5_code
def yX9_isHeardAsTold : MethodName := ⟨RX9, "isHeardAsTold", "(III)Z"⟩
abbrev cX9_take : ByteArray := prog_11_method_6_code
def yX9_take : MethodName := ⟨RX9, "take", "(I)V"⟩
def RX10 : String := "EchoGorge$Verses"
def TX10 : u_T := fun k => match k with
  | 0 => ("EchoGorge$Verses", "gorge", "LEchoGorge$Gorge;", false)
  | 1 => ("EchoGorge$Verses", "total", "I", false)
  | 2 => ("EchoGorge$Verses", "beginnings", "I", false)
  | 3 => ("EchoGorge$Verses", "lengths", "I", false)
  | 4 => ("EchoGorge$Verses", "longest", "I", false)
  | 5 => ("EchoGorge$Verses", "kindMany", "[I", true)
  | 6 => ("EchoGorge$Verses", "ofKind", "[I", true)
  | 7 => ("EchoGorge$Verses", "formLines", "[I", true)
  | 8 => ("EchoGorge$Verses", "figures", "[I", true)
  | 9 => ("EchoGorge$Verses", "answers", "[I", true)
  | 10 => ("EchoGorge$Verses", "row", "[I", true)
  | 11 => ("EchoGorge$Verses", "said", "[I", true)
  | 12 => ("EchoGorge$Verses", "length", "I", false)
  | 13 => ("EchoGorge$Verses", "heard", "[I", true)
  | 14 => ("EchoGorge$Verses", "heardLength", "I", false)
  | _ => ("EchoGorge$Verses", "fits", "[I", true)
def tyX10 : Nat → FieldType := fun k => match k with
  | 0 => .object "EchoGorge$Gorge"
  | 1 => .int
  | 2 => .int
  | 3 => .int
  | 4 => .int
  | 5 => .array .int
  | 6 => .array .int
  | 7 => .array .int
  | 8 => .array .int
  | 9 => .array .int
  | 10 => .array .int
  | 11 => .array .int
  | 12 => .int
  | 13 => .array .int
  | 14 => .int
  | _ => .array .int
abbrev wsX100 : List Cond := u_ws RX10 TX10 16
theorem nmX10 : ∀ a, a < 16 → ∀ b, b < 16 → a ≠ b → (TX10 a).2.1 ≠ (TX10 b).2.1 := by decide +kernel
theorem tyX10_ok : ∀ k, k < 16 → parseFieldDescriptor (TX10 k).2.2.1 = some (tyX10 k) := by decide +kernel
abbrev cX10_init : ByteArray := prog_12_method_1_code
def yX10_init : MethodName := ⟨RX10, "<init>", "()V"⟩
abbrev cX10_adopt : ByteArray := prog_12_method_2_code
def yX10_adopt : MethodName := ⟨RX10, "adopt", "(LEchoGorge$Gorge;)V"⟩
abbrev cX10_measureForm : ByteArray := prog_12_method_3_code
def yX10_measureForm : MethodName := ⟨RX10, "measureForm", "(I)V"⟩
abbrev cX10_spell : ByteArray := prog_12_method_4_code
def yX10_spell : MethodName := ⟨RX10, "spell", "(II)V"⟩
abbrev cX10_listen : ByteArray := prog_12_method_5_code
def yX10_listen : MethodName := ⟨RX10, "listen", "(LEchoGorge$Hearing;LEchoGorge$Returns;)Z"⟩
abbrev cX10_isLine : ByteArray := prog_12_method_6_code
def yX10_isLine : MethodName := ⟨RX10, "isLine", "()Z"⟩
abbrev cX10_layKind : ByteArray := prog_12_method_7_code
def yX10_layKind : MethodName := ⟨RX10, "layKind", "(II)I"⟩
abbrev cX10_fittingPlaces : ByteArray := prog_12_method_8_code
def yX10_fittingPlaces : MethodName := ⟨RX10, "fittingPlaces", "(I)I"⟩
abbrev cX10_fitsAt : ByteArray := prog_12_method_9_code
def yX10_fitsAt : MethodName := ⟨RX10, "fitsAt", "(II)Z"⟩
abbrev cX10_isEchoed : ByteArray := prog_12_method_10_code
def yX10_isEchoed : MethodName := ⟨RX10, "isEchoed", "(I)Z"⟩
abbrev cX10_survey : ByteArray := prog_12_method_11_code
def yX10_survey : MethodName := ⟨RX10, "survey", "(ILEchoGorge$Hearing;LEchoGorge$Returns;)I"⟩
abbrev cX10_surveyForm : ByteArray := prog_12_method_12_code
def yX10_surveyForm : MethodName := ⟨RX10, "surveyForm", "(IIILEchoGorge$Hearing;LEchoGorge$Returns;)V"⟩
abbrev cX10_weigh : ByteArray := prog_12_method_13_code
def yX10_weigh : MethodName := ⟨RX10, "weigh", "(III)I"⟩
abbrev cX10_figure : ByteArray := prog_12_method_14_code
def yX10_figure : MethodName := ⟨RX10, "figure", "(II)I"⟩
abbrev cX10_answersNow : ByteArray := prog_12_method_15_code
def yX10_answersNow : MethodName := ⟨RX10, "answersNow", "(II)Z"⟩
abbrev cX10_answering : ByteArray := prog_12_method_16_code
def yX10_answering : MethodName := ⟨RX10, "answering", "(II)I"⟩
abbrev cX10_partOf : ByteArray := prog_12_method_17_code
def yX10_partOf : MethodName := ⟨RX10, "partOf", "(II)I"⟩
abbrev cX10_countStill : ByteArray := prog_12_method_18_code
def yX10_countStill : MethodName := ⟨RX10, "countStill", "(ILEchoGorge$Hearing;LEchoGorge$Returns;I)I"⟩
abbrev cX10_thickestFog : ByteArray := prog_12_method_19_code
def yX10_thickestFog : MethodName := ⟨RX10, "thickestFog", "(ILEchoGorge$Hearing;LEchoGorge$Returns;)I"⟩
abbrev cX10_searchFog : ByteArray := prog_12_method_20_code
def yX10_searchFog : MethodName := ⟨RX10, "searchFog", "(ILEchoGorge$Hearing;LEchoGorge$Returns;)I"⟩
abbrev cX10_changesShares : ByteArray := prog_12_method_21_code
def yX10_changesShares : MethodName := ⟨RX10, "changesShares", "(I)Z"⟩
def RX11 : String := "EchoGorge"
def TX11 : u_T := fun k => match k with
  | 0 => ("EchoGorge", "tape", "[B", true)
  | 1 => ("EchoGorge", "taped", "I", false)
  | 2 => ("EchoGorge", "faultPlace", "I", false)
  | 3 => ("EchoGorge", "refused", "[I", true)
  | 4 => ("EchoGorge", "now", "LEchoGorge$Gorge;", false)
  | 5 => ("EchoGorge", "spare", "LEchoGorge$Gorge;", false)
  | 6 => ("EchoGorge", "scene", "LEchoGorge$Scene;", true)
  | 7 => ("EchoGorge", "kept", "LEchoGorge$Scene;", true)
  | 8 => ("EchoGorge", "isKept", "Z", false)
  | 9 => ("EchoGorge", "reader", "LEchoGorge$Reader;", true)
  | 10 => ("EchoGorge", "returns", "LEchoGorge$Returns;", true)
  | 11 => ("EchoGorge", "hearing", "LEchoGorge$Hearing;", true)
  | 12 => ("EchoGorge", "verses", "LEchoGorge$Verses;", true)
  | 13 => ("EchoGorge", "chant", "LEchoGorge$Chant;", true)
  | 14 => ("EchoGorge", "guess", "LEchoGorge$Guess;", true)
  | 15 => ("EchoGorge", "truth", "LEchoGorge$Truth;", true)
  | 16 => ("EchoGorge", "places", "LEchoGorge$Places;", true)
  | _ => ("EchoGorge", "claps", "LEchoGorge$Claps;", true)
def tyX11 : Nat → FieldType := fun k => match k with
  | 0 => .array .byte
  | 1 => .int
  | 2 => .int
  | 3 => .array .int
  | 4 => .object "EchoGorge$Gorge"
  | 5 => .object "EchoGorge$Gorge"
  | 6 => .object "EchoGorge$Scene"
  | 7 => .object "EchoGorge$Scene"
  | 8 => .boolean
  | 9 => .object "EchoGorge$Reader"
  | 10 => .object "EchoGorge$Returns"
  | 11 => .object "EchoGorge$Hearing"
  | 12 => .object "EchoGorge$Verses"
  | 13 => .object "EchoGorge$Chant"
  | 14 => .object "EchoGorge$Guess"
  | 15 => .object "EchoGorge$Truth"
  | 16 => .object "EchoGorge$Places"
  | _ => .object "EchoGorge$Claps"
abbrev wsX110 : List Cond := u_ws RX11 TX11 18
theorem nmX11 : ∀ a, a < 18 → ∀ b, b < 18 → a ≠ b → (TX11 a).2.1 ≠ (TX11 b).2.1 := by decide +kernel
theorem tyX11_ok : ∀ k, k < 18 → parseFieldDescriptor (TX11 k).2.2.1 = some (tyX11 k) := by decide +kernel
abbrev cX11_init : ByteArray := prog_1_method_1_code
def yX11_init : MethodName := ⟨RX11, "<init>", "()V"⟩
abbrev cX11_feed : ByteArray := prog_1_method_2_code
def yX11_feed : MethodName := ⟨RX11, "feed", "(IIIII)I"⟩
abbrev cX11_tapeNumber : ByteArray := prog_1_method_3_code
def yX11_tapeNumber : MethodName := ⟨RX11, "tapeNumber", "(I)V"⟩
abbrev cX11_gorge : ByteArray := prog_1_method_4_code
def yX11_gorge : MethodName := ⟨RX11, "gorge", "(I)I"⟩
abbrev cX11_fault : ByteArray := prog_1_method_5_code
def yX11_fault : MethodName := ⟨RX11, "fault", "()I"⟩
abbrev cX11_count : ByteArray := prog_1_method_6_code
def yX11_count : MethodName := ⟨RX11, "count", "(I)I"⟩
abbrev cX11_wall : ByteArray := prog_1_method_7_code
def yX11_wall : MethodName := ⟨RX11, "wall", "(II)I"⟩
abbrev cX11_word : ByteArray := prog_1_method_8_code
def yX11_word : MethodName := ⟨RX11, "word", "(II)I"⟩
abbrev cX11_say : ByteArray := prog_1_method_9_code
def yX11_say : MethodName := ⟨RX11, "say", "(II)I"⟩
abbrev cX11_hush : ByteArray := prog_1_method_10_code
def yX11_hush : MethodName := ⟨RX11, "hush", "()I"⟩
abbrev cX11_heard : ByteArray := prog_1_method_11_code
def yX11_heard : MethodName := ⟨RX11, "heard", "(III)I"⟩
abbrev cX11_loud : ByteArray := prog_1_method_12_code
def yX11_loud : MethodName := ⟨RX11, "loud", "(IIII)I"⟩
abbrev cX11_lines : ByteArray := prog_1_method_13_code
def yX11_lines : MethodName := ⟨RX11, "lines", "(II)I"⟩
abbrev cX11_line : ByteArray := prog_1_method_14_code
def yX11_line : MethodName := ⟨RX11, "line", "(III)I"⟩
abbrev cX11_still : ByteArray := prog_1_method_15_code
def yX11_still : MethodName := ⟨RX11, "still", "(II)I"⟩
abbrev cX11_without : ByteArray := prog_1_method_16_code
def yX11_without : MethodName := ⟨RX11, "without", "(II)I"⟩
abbrev cX11_lasts : ByteArray := prog_1_method_17_code
def yX11_lasts : MethodName := ⟨RX11, "lasts", "(I)I"⟩
abbrev cX11_sing : ByteArray := prog_1_method_18_code
def yX11_sing : MethodName := ⟨RX11, "sing", "(II)I"⟩
abbrev cX11_round : ByteArray := prog_1_method_19_code
def yX11_round : MethodName := ⟨RX11, "round", "(I)I"⟩
abbrev cX11_tell : ByteArray := prog_1_method_20_code
def yX11_tell : MethodName := ⟨RX11, "tell", "(I)I"⟩
abbrev cX11_untell : ByteArray := prog_1_method_21_code
def yX11_untell : MethodName := ⟨RX11, "untell", "()I"⟩
abbrev cX11_rivals : ByteArray := prog_1_method_22_code
def yX11_rivals : MethodName := ⟨RX11, "rivals", "(II)I"⟩
abbrev cX11_sayers : ByteArray := prog_1_method_23_code
def yX11_sayers : MethodName := ⟨RX11, "sayers", "(I)I"⟩
abbrev cX11_stand : ByteArray := prog_1_method_24_code
def yX11_stand : MethodName := ⟨RX11, "stand", "(III)Z"⟩
abbrev cX11_matching : ByteArray := prog_1_method_25_code
def yX11_matching : MethodName := ⟨RX11, "matching", "(III)I"⟩
abbrev cX11_moved : ByteArray := prog_1_method_26_code
def yX11_moved : MethodName := ⟨RX11, "moved", "(IIIII)I"⟩
abbrev cX11_code : ByteArray := prog_1_method_27_code
def yX11_code : MethodName := ⟨RX11, "code", "(II)I"⟩
abbrev cX11_image : ByteArray := prog_1_method_28_code
def yX11_image : MethodName := ⟨RX11, "image", "()V"⟩
abbrev cX11_restore : ByteArray := prog_1_method_29_code
def yX11_restore : MethodName := ⟨RX11, "restore", "()Z"⟩
abbrev cX11_needSound : ByteArray := prog_1_method_30_code
def yX11_needSound : MethodName := ⟨RX11, "needSound", "(I)V"⟩
abbrev cX11_needWall : ByteArray := prog_1_method_31_code
def yX11_needWall : MethodName := ⟨RX11, "needWall", "(I)V"⟩
abbrev cX11_needEar : ByteArray := prog_1_method_32_code
def yX11_needEar : MethodName := ⟨RX11, "needEar", "(I)V"⟩
abbrev cX11_needHour : ByteArray := prog_1_method_33_code
def yX11_needHour : MethodName := ⟨RX11, "needHour", "(I)V"⟩
abbrev cX11_needMoment : ByteArray := prog_1_method_34_code
def yX11_needMoment : MethodName := ⟨RX11, "needMoment", "(III)V"⟩
abbrev cX11_lowestBit : ByteArray := prog_1_method_35_code
def yX11_lowestBit : MethodName := ⟨RX11, "lowestBit", "(I)I"⟩
def RX12 : String := "EchoGorgeModel"
def TX12 : u_T := fun k => match k with
  | 0 => ("EchoGorgeModel", "thrown", "I", false)
  | 1 => ("EchoGorgeModel", "sounds", "I", false)
  | 2 => ("EchoGorgeModel", "walls", "I", false)
  | 3 => ("EchoGorgeModel", "words", "I", false)
  | 4 => ("EchoGorgeModel", "forms", "I", false)
  | 5 => ("EchoGorgeModel", "least", "I", false)
  | 6 => ("EchoGorgeModel", "window", "I", false)
  | 7 => ("EchoGorgeModel", "margin", "I", false)
  | 8 => ("EchoGorgeModel", "sound", "[I", true)
  | 9 => ("EchoGorgeModel", "wall", "[I", true)
  | 10 => ("EchoGorgeModel", "word", "[I", true)
  | 11 => ("EchoGorgeModel", "form", "[I", true)
  | 12 => ("EchoGorgeModel", "straight", "[I", true)
  | 13 => ("EchoGorgeModel", "air", "[I", true)
  | 14 => ("EchoGorgeModel", "sweet", "[I", true)
  | 15 => ("EchoGorgeModel", "tape", "[I", true)
  | 16 => ("EchoGorgeModel", "taped", "I", false)
  | 17 => ("EchoGorgeModel", "faultKind", "I", false)
  | 18 => ("EchoGorgeModel", "faultPlace", "I", false)
  | 19 => ("EchoGorgeModel", "refused", "[I", true)
  | 20 => ("EchoGorgeModel", "size", "I", false)
  | 21 => ("EchoGorgeModel", "next", "I", false)
  | 22 => ("EchoGorgeModel", "sort", "I", false)
  | 23 => ("EchoGorgeModel", "place", "I", false)
  | 24 => ("EchoGorgeModel", "long0", "I", false)
  | 25 => ("EchoGorgeModel", "value", "I", false)
  | 26 => ("EchoGorgeModel", "letters", "J", false)
  | 27 => ("EchoGorgeModel", "newSounds", "I", false)
  | 28 => ("EchoGorgeModel", "newWalls", "I", false)
  | 29 => ("EchoGorgeModel", "newWords", "I", false)
  | 30 => ("EchoGorgeModel", "newForms", "I", false)
  | 31 => ("EchoGorgeModel", "newLeast", "I", false)
  | 32 => ("EchoGorgeModel", "newWindow", "I", false)
  | 33 => ("EchoGorgeModel", "newMargin", "I", false)
  | 34 => ("EchoGorgeModel", "airTold", "I", false)
  | 35 => ("EchoGorgeModel", "hasStraight", "Z", false)
  | 36 => ("EchoGorgeModel", "hasMask", "Z", false)
  | 37 => ("EchoGorgeModel", "newSound", "[I", true)
  | 38 => ("EchoGorgeModel", "newWall", "[I", true)
  | 39 => ("EchoGorgeModel", "newWord", "[I", true)
  | 40 => ("EchoGorgeModel", "newForm", "[I", true)
  | 41 => ("EchoGorgeModel", "newStraight", "[I", true)
  | 42 => ("EchoGorgeModel", "newAir", "[I", true)
  | 43 => ("EchoGorgeModel", "newSweet", "[I", true)
  | 44 => ("EchoGorgeModel", "loud", "[I", true)
  | 45 => ("EchoGorgeModel", "reach", "I", false)
  | 46 => ("EchoGorgeModel", "fog", "I", false)
  | 47 => ("EchoGorgeModel", "without", "I", false)
  | 48 => ("EchoGorgeModel", "atEar", "I", false)
  | 49 => ("EchoGorgeModel", "atHour", "I", false)
  | 50 => ("EchoGorgeModel", "said", "I", false)
  | 51 => ("EchoGorgeModel", "saidSound", "[I", true)
  | 52 => ("EchoGorgeModel", "saidTick", "[I", true)
  | 53 => ("EchoGorgeModel", "lineForm", "I", false)
  | 54 => ("EchoGorgeModel", "lineWord", "[I", true)
  | 55 => ("EchoGorgeModel", "spoken", "[I", true)
  | 56 => ("EchoGorgeModel", "back", "[I", true)
  | 57 => ("EchoGorgeModel", "spokenLong", "I", false)
  | 58 => ("EchoGorgeModel", "backLong", "I", false)
  | 59 => ("EchoGorgeModel", "answering", "I", false)
  | 60 => ("EchoGorgeModel", "echoed", "I", false)
  | 61 => ("EchoGorgeModel", "plain", "I", false)
  | 62 => ("EchoGorgeModel", "plainForm", "I", false)
  | 63 => ("EchoGorgeModel", "beginnings", "I", false)
  | 64 => ("EchoGorgeModel", "plainWord", "[I", true)
  | 65 => ("EchoGorgeModel", "good", "[I", true)
  | 66 => ("EchoGorgeModel", "roundLong", "I", false)
  | 67 => ("EchoGorgeModel", "sung", "[I", true)
  | 68 => ("EchoGorgeModel", "told", "I", false)
  | 69 => ("EchoGorgeModel", "tells", "[I", true)
  | 70 => ("EchoGorgeModel", "rival", "[I", true)
  | 71 => ("EchoGorgeModel", "rows", "[J", true)
  | 72 => ("EchoGorgeModel", "rivals", "I", false)
  | 73 => ("EchoGorgeModel", "truly", "[I", true)
  | 74 => ("EchoGorgeModel", "stands", "[I", true)
  | 75 => ("EchoGorgeModel", "here", "[Z", true)
  | 76 => ("EchoGorgeModel", "there", "[Z", true)
  | 77 => ("EchoGorgeModel", "together", "[I", true)
  | 78 => ("EchoGorgeModel", "hasImage", "Z", false)
  | 79 => ("EchoGorgeModel", "imageSaid", "I", false)
  | 80 => ("EchoGorgeModel", "imageTold", "I", false)
  | 81 => ("EchoGorgeModel", "imageLong", "I", false)
  | 82 => ("EchoGorgeModel", "imageSound", "[I", true)
  | 83 => ("EchoGorgeModel", "imageTick", "[I", true)
  | 84 => ("EchoGorgeModel", "imageTells", "[I", true)
  | 85 => ("EchoGorgeModel", "imageSung", "[I", true)
  | _ => ("EchoGorgeModel", "imageStands", "[I", true)
def tyX12 : Nat → FieldType := fun k => match k with
  | 0 => .int
  | 1 => .int
  | 2 => .int
  | 3 => .int
  | 4 => .int
  | 5 => .int
  | 6 => .int
  | 7 => .int
  | 8 => .array .int
  | 9 => .array .int
  | 10 => .array .int
  | 11 => .array .int
  | 12 => .array .int
  | 13 => .array .int
  | 14 => .array .int
  | 15 => .array .int
  | 16 => .int
  | 17 => .int
  | 18 => .int
  | 19 => .array .int
  | 20 => .int
  | 21 => .int
  | 22 => .int
  | 23 => .int
  | 24 => .int
  | 25 => .int
  | 26 => .long
  | 27 => .int
  | 28 => .int
  | 29 => .int
  | 30 => .int
  | 31 => .int
  | 32 => .int
  | 33 => .int
  | 34 => .int
  | 35 => .boolean
  | 36 => .boolean
  | 37 => .array .int
  | 38 => .array .int
  | 39 => .array .int
  | 40 => .array .int
  | 41 => .array .int
  | 42 => .array .int
  | 43 => .array .int
  | 44 => .array .int
  | 45 => .int
  | 46 => .int
  | 47 => .int
  | 48 => .int
  | 49 => .int
  | 50 => .int
  | 51 => .array .int
  | 52 => .array .int
  | 53 => .int
  | 54 => .array .int
  | 55 => .array .int
  | 56 => .array .int
  | 57 => .int
  | 58 => .int
  | 59 => .int
  | 60 => .int
  | 61 => .int
  | 62 => .int
  | 63 => .int
  | 64 => .array .int
  | 65 => .array .int
  | 66 => .int
  | 67 => .array .int
  | 68 => .int
  | 69 => .array .int
  | 70 => .array .int
  | 71 => .array .long
  | 72 => .int
  | 73 => .array .int
  | 74 => .array .int
  | 75 => .array .boolean
  | 76 => .array .boolean
  | 77 => .array .int
  | 78 => .boolean
  | 79 => .int
  | 80 => .int
  | 81 => .int
  | 82 => .array .int
  | 83 => .array .int
  | 84 => .array .int
  | 85 => .array .int
  | _ => .array .int
abbrev wsX120 : List Cond := u_ws RX12 TX12 87
theorem nmX12 : ∀ a, a < 87 → ∀ b, b < 87 → a ≠ b → (TX12 a).2.1 ≠ (TX12 b).2.1 := by decide +kernel
theorem tyX12_ok : ∀ k, k < 87 → parseFieldDescriptor (TX12 k).2.2.1 = some (tyX12 k) := by decide +kernel
abbrev cX12_init : ByteArray := prog_14_method_1_code
def yX12_init : MethodName := ⟨RX12, "<init>", "()V"⟩
abbrev cX12_thrown : ByteArray := prog_14_method_2_code
def yX12_thrown : MethodName := ⟨RX12, "thrown", "()I"⟩
abbrev cX12_right : ByteArray := prog_14_method_3_code
def yX12_right : MethodName := ⟨RX12, "right", "(ZI)Z"⟩
abbrev cX12_within : ByteArray := prog_14_method_4_code
def yX12_within : MethodName := ⟨RX12, "within", "(III)Z"⟩
abbrev cX12_copies : ByteArray := prog_14_method_5_code
def yX12_copies : MethodName := ⟨RX12, "copies", "([I[I)V"⟩
abbrev cX12_feed : ByteArray := prog_14_method_6_code
def yX12_feed : MethodName := ⟨RX12, "feed", "(IIIII)I"⟩
abbrev cX12_lays : ByteArray := prog_14_method_7_code
def yX12_lays : MethodName := ⟨RX12, "lays", "(I)V"⟩
abbrev cX12_byteAt : ByteArray := prog_14_method_8_code
def yX12_byteAt : MethodName := ⟨RX12, "byteAt", "(I)I"⟩
abbrev cX12_isLetter : ByteArray := prog_14_method_9_code
def yX12_isLetter : MethodName := ⟨RX12, "isLetter", "(I)Z"⟩
abbrev cX12_isDigit : ByteArray := prog_14_method_10_code
def yX12_isDigit : MethodName := ⟨RX12, "isDigit", "(I)Z"⟩
abbrev cX12_steps : ByteArray := prog_14_method_11_code
def yX12_steps : MethodName := ⟨RX12, "steps", "()V"⟩
abbrev cX12_spelled : ByteArray := prog_14_method_12_code
def yX12_spelled : MethodName := ⟨RX12, "spelled", "(IIIIIIII)J"⟩
abbrev cX12_lettersOf : ByteArray := prog_14_method_13_code
def yX12_lettersOf : MethodName := ⟨RX12, "lettersOf", "(I)J"⟩
abbrev cX12_is : ByteArray := prog_14_method_14_code
def yX12_is : MethodName := ⟨RX12, "is", "(I)Z"⟩
abbrev cX12_wrong : ByteArray := prog_14_method_15_code
def yX12_wrong : MethodName := ⟨RX12, "wrong", "(I)V"⟩
abbrev cX12_isGood : ByteArray := prog_14_method_16_code
def yX12_isGood : MethodName := ⟨RX12, "isGood", "()Z"⟩
abbrev cX12_need : ByteArray := prog_14_method_17_code
def yX12_need : MethodName := ⟨RX12, "need", "(Z)V"⟩
abbrev cX12_number : ByteArray := prog_14_method_18_code
def yX12_number : MethodName := ⟨RX12, "number", "(II)I"⟩
abbrev cX12_soundHere : ByteArray := prog_14_method_19_code
def yX12_soundHere : MethodName := ⟨RX12, "soundHere", "()Z"⟩
abbrev cX12_readsWall : ByteArray := prog_14_method_20_code
def yX12_readsWall : MethodName := ⟨RX12, "readsWall", "()V"⟩
abbrev cX12_readsSweet : ByteArray := prog_14_method_21_code
def yX12_readsSweet : MethodName := ⟨RX12, "readsSweet", "()V"⟩
abbrev cX12_readsWord : ByteArray := prog_14_method_22_code
def yX12_readsWord : MethodName := ⟨RX12, "readsWord", "()V"⟩
abbrev cX12_readsForm : ByteArray := prog_14_method_23_code
def yX12_readsForm : MethodName := ⟨RX12, "readsForm", "()V"⟩
abbrev cX12_readsAir : ByteArray := prog_14_method_24_code
def yX12_readsAir : MethodName := ⟨RX12, "readsAir", "()V"⟩
abbrev cX12_line : ByteArray := prog_14_method_25_code
def yX12_line : MethodName := ⟨RX12, "line", "()V"⟩
abbrev cX12_gorge : ByteArray := prog_14_method_26_code
def yX12_gorge : MethodName := ⟨RX12, "gorge", "(I)I"⟩
abbrev cX12_fault : ByteArray := prog_14_method_27_code
def yX12_fault : MethodName := ⟨RX12, "fault", "()I"⟩
abbrev cX12_count : ByteArray := prog_14_method_28_code
def yX12_count : MethodName := ⟨RX12, "count", "(I)I"⟩
abbrev cX12_wall : ByteArray := prog_14_method_29_code
def yX12_wall : MethodName := ⟨RX12, "wall", "(II)I"⟩
abbrev cX12_word : ByteArray := prog_14_method_30_code
def yX12_word : MethodName := ⟨RX12, "word", "(II)I"⟩
abbrev cX12_isSound : ByteArray := prog_14_method_31_code
def yX12_isSound : MethodName := ⟨RX12, "isSound", "(I)Z"⟩
abbrev cX12_opens : ByteArray := prog_14_method_32_code
def yX12_opens : MethodName := ⟨RX12, "opens", "(III)V"⟩
abbrev cX12_comes : ByteArray := prog_14_method_33_code
def yX12_comes : MethodName := ⟨RX12, "comes", "(III)V"⟩
abbrev cX12_says : ByteArray := prog_14_method_34_code
def yX12_says : MethodName := ⟨RX12, "says", "(II)V"⟩
abbrev cX12_hears : ByteArray := prog_14_method_35_code
def yX12_hears : MethodName := ⟨RX12, "hears", "(I)I"⟩
abbrev cX12_say : ByteArray := prog_14_method_36_code
def yX12_say : MethodName := ⟨RX12, "say", "(II)I"⟩
abbrev cX12_hush : ByteArray := prog_14_method_37_code
def yX12_hush : MethodName := ⟨RX12, "hush", "()I"⟩
abbrev cX12_isWhere : ByteArray := prog_14_method_38_code
def yX12_isWhere : MethodName := ⟨RX12, "isWhere", "(III)Z"⟩
abbrev cX12_allSaid : ByteArray := prog_14_method_39_code
def yX12_allSaid : MethodName := ⟨RX12, "allSaid", "(III)V"⟩
abbrev cX12_heard : ByteArray := prog_14_method_40_code
def yX12_heard : MethodName := ⟨RX12, "heard", "(III)I"⟩
abbrev cX12_loud : ByteArray := prog_14_method_41_code
def yX12_loud : MethodName := ⟨RX12, "loud", "(IIII)I"⟩
abbrev cX12_kindOf : ByteArray := prog_14_method_42_code
def yX12_kindOf : MethodName := ⟨RX12, "kindOf", "(II)I"⟩
abbrev cX12_wordsOf : ByteArray := prog_14_method_43_code
def yX12_wordsOf : MethodName := ⟨RX12, "wordsOf", "(I)I"⟩
abbrev cX12_linesOf : ByteArray := prog_14_method_44_code
def yX12_linesOf : MethodName := ⟨RX12, "linesOf", "(I)I"⟩
abbrev cX12_allLines : ByteArray := prog_14_method_45_code
def yX12_allLines : MethodName := ⟨RX12, "allLines", "()I"⟩
abbrev cX12_wordBehind : ByteArray := prog_14_method_46_code
def yX12_wordBehind : MethodName := ⟨RX12, "wordBehind", "(II)I"⟩
abbrev cX12_firstLine : ByteArray := prog_14_method_47_code
def yX12_firstLine : MethodName := ⟨RX12, "firstLine", "()Z"⟩
abbrev cX12_nextForm : ByteArray := prog_14_method_48_code
def yX12_nextForm : MethodName := ⟨RX12, "nextForm", "()Z"⟩
abbrev cX12_nextLine : ByteArray := prog_14_method_49_code
def yX12_nextLine : MethodName := ⟨RX12, "nextLine", "()Z"⟩
abbrev cX12_speaks : ByteArray := prog_14_method_50_code
def yX12_speaks : MethodName := ⟨RX12, "speaks", "()V"⟩
abbrev cX12_returns : ByteArray := prog_14_method_51_code
def yX12_returns : MethodName := ⟨RX12, "returns", "(I)V"⟩
abbrev cX12_isWordAt : ByteArray := prog_14_method_52_code
def yX12_isWordAt : MethodName := ⟨RX12, "isWordAt", "(II)Z"⟩
abbrev cX12_isLine : ByteArray := prog_14_method_53_code
def yX12_isLine : MethodName := ⟨RX12, "isLine", "()Z"⟩
abbrev cX12_answers : ByteArray := prog_14_method_54_code
def yX12_answers : MethodName := ⟨RX12, "answers", "(I)Z"⟩
abbrev cX12_isEchoed : ByteArray := prog_14_method_55_code
def yX12_isEchoed : MethodName := ⟨RX12, "isEchoed", "()Z"⟩
abbrev cX12_goesThrough : ByteArray := prog_14_method_56_code
def yX12_goesThrough : MethodName := ⟨RX12, "goesThrough", "(I)V"⟩
abbrev cX12_bits : ByteArray := prog_14_method_57_code
def yX12_bits : MethodName := ⟨RX12, "bits", "(I)I"⟩
abbrev cX12_isHour : ByteArray := prog_14_method_58_code
def yX12_isHour : MethodName := ⟨RX12, "isHour", "(I)Z"⟩
abbrev cX12_lines : ByteArray := prog_14_method_59_code
def yX12_lines : MethodName := ⟨RX12, "lines", "(II)I"⟩
abbrev cX12_line_ : ByteArray := prog_14_method_60_code
def yX12_line_ : MethodName := ⟨RX12, "line", "(III)I"⟩
abbrev cX12_stillOf : ByteArray := prog_14_method_61_code
def yX12_stillOf : MethodName := ⟨RX12, "stillOf", "(IIII)I"⟩
abbrev cX12_still : ByteArray := prog_14_method_62_code
def yX12_still : MethodName := ⟨RX12, "still", "(II)I"⟩
abbrev cX12_without : ByteArray := prog_14_method_63_code
def yX12_without : MethodName := ⟨RX12, "without", "(II)I"⟩
abbrev cX12_lasts : ByteArray := prog_14_method_64_code
def yX12_lasts : MethodName := ⟨RX12, "lasts", "(I)I"⟩
abbrev cX12_sing : ByteArray := prog_14_method_65_code
def yX12_sing : MethodName := ⟨RX12, "sing", "(II)I"⟩
abbrev cX12_clashes : ByteArray := prog_14_method_66_code
def yX12_clashes : MethodName := ⟨RX12, "clashes", "(I)I"⟩
abbrev cX12_round : ByteArray := prog_14_method_67_code
def yX12_round : MethodName := ⟨RX12, "round", "(I)I"⟩
abbrev cX12_tell : ByteArray := prog_14_method_68_code
def yX12_tell : MethodName := ⟨RX12, "tell", "(I)I"⟩
abbrev cX12_untell : ByteArray := prog_14_method_69_code
def yX12_untell : MethodName := ⟨RX12, "untell", "()I"⟩
abbrev cX12_toldAt : ByteArray := prog_14_method_70_code
def yX12_toldAt : MethodName := ⟨RX12, "toldAt", "(I)I"⟩
abbrev cX12_isTold : ByteArray := prog_14_method_71_code
def yX12_isTold : MethodName := ⟨RX12, "isTold", "()Z"⟩
abbrev cX12_saysBy : ByteArray := prog_14_method_72_code
def yX12_saysBy : MethodName := ⟨RX12, "saysBy", "(IIII)V"⟩
abbrev cX12_finds : ByteArray := prog_14_method_73_code
def yX12_finds : MethodName := ⟨RX12, "finds", "(I)V"⟩
abbrev cX12_next0 : ByteArray := prog_14_method_74_code
def yX12_next0 : MethodName := ⟨RX12, "next0", "(II)I"⟩
abbrev cX12_group : ByteArray := prog_14_method_75_code
def yX12_group : MethodName := ⟨RX12, "group", "(II)I"⟩
abbrev cX12_rivals : ByteArray := prog_14_method_76_code
def yX12_rivals : MethodName := ⟨RX12, "rivals", "(II)I"⟩
abbrev cX12_sayers : ByteArray := prog_14_method_77_code
def yX12_sayers : MethodName := ⟨RX12, "sayers", "(I)I"⟩
abbrev cX12_stand : ByteArray := prog_14_method_78_code
def yX12_stand : MethodName := ⟨RX12, "stand", "(III)Z"⟩
abbrev cX12_ticksTo : ByteArray := prog_14_method_79_code
def yX12_ticksTo : MethodName := ⟨RX12, "ticksTo", "(II)I"⟩
abbrev cX12_matches : ByteArray := prog_14_method_80_code
def yX12_matches : MethodName := ⟨RX12, "matches", "(III)Z"⟩
abbrev cX12_matching : ByteArray := prog_14_method_81_code
def yX12_matching : MethodName := ⟨RX12, "matching", "(III)I"⟩
abbrev cX12_moved : ByteArray := prog_14_method_82_code
def yX12_moved : MethodName := ⟨RX12, "moved", "(IIIII)I"⟩
abbrev cX12_falls : ByteArray := prog_14_method_83_code
def yX12_falls : MethodName := ⟨RX12, "falls", "(I)V"⟩
abbrev cX12_code : ByteArray := prog_14_method_84_code
def yX12_code : MethodName := ⟨RX12, "code", "(II)I"⟩
abbrev cX12_image : ByteArray := prog_14_method_85_code
def yX12_image : MethodName := ⟨RX12, "image", "()V"⟩
abbrev cX12_restore : ByteArray := prog_14_method_86_code
def yX12_restore : MethodName := ⟨RX12, "restore", "()Z"⟩
def RJ6 : String := "java/lang/Integer"
def TJ6 : u_T := fun k => match k with
  | _ => ("", "", "", false)
def tyJ6 : Nat → FieldType := fun k => match k with
  | _ => .int
abbrev wsJ60 : List Cond := u_ws RJ6 TJ6 0
theorem nmJ6 : ∀ a, a < 0 → ∀ b, b < 0 → a ≠ b → (TJ6 a).2.1 ≠ (TJ6 b).2.1 := by decide +kernel
theorem tyJ6_ok : ∀ k, k < 0 → parseFieldDescriptor (TJ6 k).2.2.1 = some (tyJ6 k) := by decide +kernel
abbrev cJ6_bitCount_0f7a4 : ByteArray := prog_20_method_49_code
def yJ6_bitCount_0f7a4 : MethodName := ⟨RJ6, "bitCount", "(I)I"⟩
def RJ9 : String := "java/lang/Math"
def TJ9 : u_T := fun k => match k with
  | _ => ("", "", "", false)
def tyJ9 : Nat → FieldType := fun k => match k with
  | _ => .int
abbrev wsJ90 : List Cond := u_ws RJ9 TJ9 0
theorem nmJ9 : ∀ a, a < 0 → ∀ b, b < 0 → a ≠ b → (TJ9 a).2.1 ≠ (TJ9 b).2.1 := by decide +kernel
theorem tyJ9_ok : ∀ k, k < 0 → parseFieldDescriptor (TJ9 k).2.2.1 = some (tyJ9 k) := by decide +kernel
abbrev cJ9_floorMod_7cf53 : ByteArray := prog_21_method_50_code
def yJ9_floorMod_7cf53 : MethodName := ⟨RJ9, "floorMod", "(II)I"⟩
abbrev cJ9_abs_0f7a4 : ByteArray := prog_21_method_59_code
def yJ9_abs_0f7a4 : MethodName := ⟨RJ9, "abs", "(I)I"⟩
abbrev cJ9_max_7cf53 : ByteArray := prog_21_method_65_code
def yJ9_max_7cf53 : MethodName := ⟨RJ9, "max", "(II)I"⟩
abbrev cJ9_min_7cf53 : ByteArray := prog_21_method_69_code
def yJ9_min_7cf53 : MethodName := ⟨RJ9, "min", "(II)I"⟩
def RJ0 : String := "java/lang/String"
def TJ0 : u_T := fun k => match k with
  | _ => ("", "", "", false)
def tyJ0 : Nat → FieldType := fun k => match k with
  | _ => .int
abbrev wsJ00 : List Cond := u_ws RJ0 TJ0 0
theorem nmJ0 : ∀ a, a < 0 → ∀ b, b < 0 → a ≠ b → (TJ0 a).2.1 ≠ (TJ0 b).2.1 := by decide +kernel
theorem tyJ0_ok : ∀ k, k < 0 → parseFieldDescriptor (TJ0 k).2.2.1 = some (tyJ0 k) := by decide +kernel
abbrev cJ0_length_8abf5 : ByteArray := prog_23_method_54_code
def yJ0_length_8abf5 : MethodName := ⟨RJ0, "length", "()I"⟩
abbrev cJ0_charAt_5068e : ByteArray := prog_23_method_56_code
def yJ0_charAt_5068e : MethodName := ⟨RJ0, "charAt", "(I)C"⟩
abbrev cJ0_coder_7d493 : ByteArray := prog_23_method_152_code
def yJ0_coder_7d493 : MethodName := ⟨RJ0, "coder", "()B"⟩
abbrev cJ0_isLatin1_aae02 : ByteArray := prog_23_method_154_code
def yJ0_isLatin1_aae02 : MethodName := ⟨RJ0, "isLatin1", "()Z"⟩
abbrev cJ0_checkIndex_df160 : ByteArray := prog_23_method_155_code
def yJ0_checkIndex_df160 : MethodName := ⟨RJ0, "checkIndex", "(II)V"⟩
def RJ1 : String := "java/lang/StringLatin1"
def TJ1 : u_T := fun k => match k with
  | _ => ("", "", "", false)
def tyJ1 : Nat → FieldType := fun k => match k with
  | _ => .int
abbrev wsJ10 : List Cond := u_ws RJ1 TJ1 0
theorem nmJ1 : ∀ a, a < 0 → ∀ b, b < 0 → a ≠ b → (TJ1 a).2.1 ≠ (TJ1 b).2.1 := by decide +kernel
theorem tyJ1_ok : ∀ k, k < 0 → parseFieldDescriptor (TJ1 k).2.2.1 = some (tyJ1 k) := by decide +kernel
abbrev cJ1_charAt_3b067 : ByteArray := prog_24_method_2_code
def yJ1_charAt_3b067 : MethodName := ⟨RJ1, "charAt", "([BI)C"⟩
def RJ2 : String := "java/lang/StringUTF16"
def TJ2 : u_T := fun k => match k with
  | _ => ("", "", "", false)
def tyJ2 : Nat → FieldType := fun k => match k with
  | _ => .int
abbrev wsJ20 : List Cond := u_ws RJ2 TJ2 0
theorem nmJ2 : ∀ a, a < 0 → ∀ b, b < 0 → a ≠ b → (TJ2 a).2.1 ≠ (TJ2 b).2.1 := by decide +kernel
theorem tyJ2_ok : ∀ k, k < 0 → parseFieldDescriptor (TJ2 k).2.2.1 = some (tyJ2 k) := by decide +kernel
abbrev cJ2_getChar_3b067 : ByteArray := prog_25_method_5_code
def yJ2_getChar_3b067 : MethodName := ⟨RJ2, "getChar", "([BI)C"⟩
abbrev cJ2_length_9d52b : ByteArray := prog_25_method_6_code
def yJ2_length_9d52b : MethodName := ⟨RJ2, "length", "([B)I"⟩
abbrev cJ2_charAt_3b067 : ByteArray := prog_25_method_83_code
def yJ2_charAt_3b067 : MethodName := ⟨RJ2, "charAt", "([BI)C"⟩
abbrev cJ2_checkIndex_2214a : ByteArray := prog_25_method_91_code
def yJ2_checkIndex_2214a : MethodName := ⟨RJ2, "checkIndex", "(I[B)V"⟩
def RJ10 : String := "java/lang/System"
def TJ10 : u_T := fun k => match k with
  | _ => ("", "", "", false)
def tyJ10 : Nat → FieldType := fun k => match k with
  | _ => .int
abbrev wsJ100 : List Cond := u_ws RJ10 TJ10 0
theorem nmJ10 : ∀ a, a < 0 → ∀ b, b < 0 → a ≠ b → (TJ10 a).2.1 ≠ (TJ10 b).2.1 := by decide +kernel
theorem tyJ10_ok : ∀ k, k < 0 → parseFieldDescriptor (TJ10 k).2.2.1 = some (tyJ10 k) := by decide +kernel
def RJ7 : String := "java/util/Arrays"
def TJ7 : u_T := fun k => match k with
  | _ => ("", "", "", false)
def tyJ7 : Nat → FieldType := fun k => match k with
  | _ => .int
abbrev wsJ70 : List Cond := u_ws RJ7 TJ7 0
theorem nmJ7 : ∀ a, a < 0 → ∀ b, b < 0 → a ≠ b → (TJ7 a).2.1 ≠ (TJ7 b).2.1 := by decide +kernel
theorem tyJ7_ok : ∀ k, k < 0 → parseFieldDescriptor (TJ7 k).2.2.1 = some (tyJ7 k) := by decide +kernel
abbrev cJ7_fill_53178 : ByteArray := prog_30_method_103_code
def yJ7_fill_53178 : MethodName := ⟨RJ7, "fill", "([II)V"⟩
def RJ3 : String := "jdk/internal/util/Preconditions"
def TJ3 : u_T := fun k => match k with
  | _ => ("", "", "", false)
def tyJ3 : Nat → FieldType := fun k => match k with
  | _ => .int
abbrev wsJ30 : List Cond := u_ws RJ3 TJ3 0
theorem nmJ3 : ∀ a, a < 0 → ∀ b, b < 0 → a ≠ b → (TJ3 a).2.1 ≠ (TJ3 b).2.1 := by decide +kernel
theorem tyJ3_ok : ∀ k, k < 0 → parseFieldDescriptor (TJ3 k).2.2.1 = some (tyJ3 k) := by decide +kernel
abbrev cJ3_checkIndex_8e157 : ByteArray := prog_32_method_11_code
def yJ3_checkIndex_8e157 : MethodName := ⟨RJ3, "checkIndex", "(IILjava/util/function/BiFunction;)I"⟩
def RL : String := "EchoGorgeLaw"
abbrev cL_gorge : ByteArray := method_3_code
def yL_gorge : MethodName := ⟨RL, "gorge", "(LEchoGorge;I[J)I"⟩
abbrev cL_count : ByteArray := method_4_code
def yL_count : MethodName := ⟨RL, "count", "(LEchoGorge;I[J)I"⟩
abbrev cL_wall : ByteArray := method_5_code
def yL_wall : MethodName := ⟨RL, "wall", "(LEchoGorge;II[J)I"⟩
abbrev cL_word : ByteArray := method_6_code
def yL_word : MethodName := ⟨RL, "word", "(LEchoGorge;II[J)I"⟩
abbrev cL_say : ByteArray := method_7_code
def yL_say : MethodName := ⟨RL, "say", "(LEchoGorge;II[J)I"⟩
abbrev cL_heard : ByteArray := method_8_code
def yL_heard : MethodName := ⟨RL, "heard", "(LEchoGorge;III[J)I"⟩
abbrev cL_loud : ByteArray := method_9_code
def yL_loud : MethodName := ⟨RL, "loud", "(LEchoGorge;IIII[J)I"⟩
abbrev cL_lines : ByteArray := method_10_code
def yL_lines : MethodName := ⟨RL, "lines", "(LEchoGorge;II[J)I"⟩
abbrev cL_line : ByteArray := method_11_code
def yL_line : MethodName := ⟨RL, "line", "(LEchoGorge;III[J)I"⟩
abbrev cL_still : ByteArray := method_12_code
def yL_still : MethodName := ⟨RL, "still", "(LEchoGorge;II[J)I"⟩
abbrev cL_without : ByteArray := method_13_code
def yL_without : MethodName := ⟨RL, "without", "(LEchoGorge;II[J)I"⟩
abbrev cL_lasts : ByteArray := method_14_code
def yL_lasts : MethodName := ⟨RL, "lasts", "(LEchoGorge;I[J)I"⟩
abbrev cL_sing : ByteArray := method_15_code
def yL_sing : MethodName := ⟨RL, "sing", "(LEchoGorge;II[J)I"⟩
abbrev cL_round : ByteArray := method_16_code
def yL_round : MethodName := ⟨RL, "round", "(LEchoGorge;I[J)I"⟩
abbrev cL_tell : ByteArray := method_17_code
def yL_tell : MethodName := ⟨RL, "tell", "(LEchoGorge;I[J)I"⟩
abbrev cL_rivals : ByteArray := method_18_code
def yL_rivals : MethodName := ⟨RL, "rivals", "(LEchoGorge;II[J)I"⟩
abbrev cL_sayers : ByteArray := method_19_code
def yL_sayers : MethodName := ⟨RL, "sayers", "(LEchoGorge;I[J)I"⟩
abbrev cL_stand : ByteArray := method_20_code
def yL_stand : MethodName := ⟨RL, "stand", "(LEchoGorge;III[J)I"⟩
abbrev cL_matching : ByteArray := method_21_code
def yL_matching : MethodName := ⟨RL, "matching", "(LEchoGorge;III[J)I"⟩
abbrev cL_moved : ByteArray := method_22_code
def yL_moved : MethodName := ⟨RL, "moved", "(LEchoGorge;IIIII[J)I"⟩
abbrev cL_code : ByteArray := method_23_code
def yL_code : MethodName := ⟨RL, "code", "(LEchoGorge;II[J)I"⟩
abbrev cL_law : ByteArray := code
def yL_law : MethodName := ⟨RL, "law", "([I)Z"⟩
abbrev vwCl : List vw_C := [(RX0, TX0, 1), (RX1, TX1, 5), (RX2, TX2, 21), (RX3, TX3, 8), (RX4, TX4, 9), (RX5, TX5, 2), (RX6, TX6, 12), (RX7, TX7, 9), (RX8, TX8, 8), (RX9, TX9, 9), (RX10, TX10, 16), (RX11, TX11, 18), (RX12, TX12, 87)]

