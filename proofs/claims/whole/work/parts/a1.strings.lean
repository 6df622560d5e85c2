/-! ===== String.length, String.charAt of the constants; spells ===== -/
theorem wd20 : ((Jvm.Cond.initialized "java/lang/String") : Cond) ∈ GW := tw1 (List.mem_of_getElem? (i := 20) rfl) rfl
theorem wd21 : ((Jvm.Cond.initialized "java/lang/StringLatin1") : Cond) ∈ GW := tw1 (List.mem_of_getElem? (i := 21) rfl) rfl
theorem wd726 : ((Jvm.Cond.methodLink "EchoGorge$Reader" 76 ⟨"java/lang/String","length","()I"⟩) : Cond) ∈ GW := tw4 (List.mem_of_getElem? (i := 6) rfl) rfl
theorem wd727 : ((Jvm.Cond.instanceMethod ⟨"java/lang/String","length","()I"⟩) : Cond) ∈ GW := tw4 (List.mem_of_getElem? (i := 7) rfl) rfl
theorem wd728 : ((Jvm.Cond.selects "java/lang/String" ⟨"java/lang/String","length","()I"⟩ ⟨"java/lang/String","length","()I"⟩) : Cond) ∈ GW := tw4 (List.mem_of_getElem? (i := 8) rfl) rfl
theorem wd729 : ((Jvm.Cond.code ⟨"java/lang/String","length","()I"⟩ prog_23_method_54_code 1 (Option.some Jvm.ClassFile.FieldType.int)) : Cond) ∈ GW := tw4 (List.mem_of_getElem? (i := 9) rfl) rfl
theorem wd730 : ((Jvm.Cond.methodLink "java/lang/String" 335 ⟨"java/lang/String","coder","()B"⟩) : Cond) ∈ GW := tw4 (List.mem_of_getElem? (i := 10) rfl) rfl
theorem wd731 : ((Jvm.Cond.instanceMethod ⟨"java/lang/String","coder","()B"⟩) : Cond) ∈ GW := tw4 (List.mem_of_getElem? (i := 11) rfl) rfl
theorem wd732 : ((Jvm.Cond.selects "java/lang/String" ⟨"java/lang/String","coder","()B"⟩ ⟨"java/lang/String","coder","()B"⟩) : Cond) ∈ GW := tw4 (List.mem_of_getElem? (i := 12) rfl) rfl
theorem wd733 : ((Jvm.Cond.code ⟨"java/lang/String","coder","()B"⟩ prog_23_method_152_code 1 (Option.some Jvm.ClassFile.FieldType.byte)) : Cond) ∈ GW := tw4 (List.mem_of_getElem? (i := 13) rfl) rfl
theorem wd734 : ((Jvm.Cond.fieldLink "java/lang/String" 38 "java/lang/String" "COMPACT_STRINGS" "Z") : Cond) ∈ GW := tw4 (List.mem_of_getElem? (i := 14) rfl) rfl
theorem wd736 : ((Jvm.Cond.methodLink "EchoGorge$Reader" 82 ⟨"java/lang/String","charAt","(I)C"⟩) : Cond) ∈ GW := tw4 (List.mem_of_getElem? (i := 16) rfl) rfl
theorem wd737 : ((Jvm.Cond.instanceMethod ⟨"java/lang/String","charAt","(I)C"⟩) : Cond) ∈ GW := tw4 (List.mem_of_getElem? (i := 17) rfl) rfl
theorem wd738 : ((Jvm.Cond.selects "java/lang/String" ⟨"java/lang/String","charAt","(I)C"⟩ ⟨"java/lang/String","charAt","(I)C"⟩) : Cond) ∈ GW := tw4 (List.mem_of_getElem? (i := 18) rfl) rfl
theorem wd739 : ((Jvm.Cond.code ⟨"java/lang/String","charAt","(I)C"⟩ prog_23_method_56_code 2 (Option.some Jvm.ClassFile.FieldType.char)) : Cond) ∈ GW := tw4 (List.mem_of_getElem? (i := 19) rfl) rfl
theorem wd740 : ((Jvm.Cond.methodLink "java/lang/String" 492 ⟨"java/lang/String","isLatin1","()Z"⟩) : Cond) ∈ GW := tw4 (List.mem_of_getElem? (i := 20) rfl) rfl
theorem wd741 : ((Jvm.Cond.instanceMethod ⟨"java/lang/String","isLatin1","()Z"⟩) : Cond) ∈ GW := tw4 (List.mem_of_getElem? (i := 21) rfl) rfl
theorem wd742 : ((Jvm.Cond.selects "java/lang/String" ⟨"java/lang/String","isLatin1","()Z"⟩ ⟨"java/lang/String","isLatin1","()Z"⟩) : Cond) ∈ GW := tw4 (List.mem_of_getElem? (i := 22) rfl) rfl
theorem wd743 : ((Jvm.Cond.code ⟨"java/lang/String","isLatin1","()Z"⟩ prog_23_method_154_code 1 (Option.some Jvm.ClassFile.FieldType.boolean)) : Cond) ∈ GW := tw4 (List.mem_of_getElem? (i := 23) rfl) rfl
theorem wd744 : ((Jvm.Cond.methodLink "java/lang/String" 495 ⟨"java/lang/StringLatin1","charAt","([BI)C"⟩) : Cond) ∈ GW := tw4 (List.mem_of_getElem? (i := 24) rfl) rfl
theorem wd745 : ((Jvm.Cond.static ⟨"java/lang/StringLatin1","charAt","([BI)C"⟩) : Cond) ∈ GW := tw4 (List.mem_of_getElem? (i := 25) rfl) rfl
theorem wd746 : ((Jvm.Cond.code ⟨"java/lang/StringLatin1","charAt","([BI)C"⟩ prog_24_method_2_code 2 (Option.some Jvm.ClassFile.FieldType.char)) : Cond) ∈ GW := tw4 (List.mem_of_getElem? (i := 26) rfl) rfl
theorem wd747 : ((Jvm.Cond.methodLink "java/lang/StringLatin1" 9 ⟨"java/lang/String","checkIndex","(II)V"⟩) : Cond) ∈ GW := tw4 (List.mem_of_getElem? (i := 27) rfl) rfl
theorem wd748 : ((Jvm.Cond.static ⟨"java/lang/String","checkIndex","(II)V"⟩) : Cond) ∈ GW := tw4 (List.mem_of_getElem? (i := 28) rfl) rfl
theorem wd749 : ((Jvm.Cond.code ⟨"java/lang/String","checkIndex","(II)V"⟩ prog_23_method_155_code 2 (Option.none : Option Jvm.ClassFile.FieldType)) : Cond) ∈ GW := tw4 (List.mem_of_getElem? (i := 29) rfl) rfl
theorem wd750 : ((Jvm.Cond.fieldLink "java/lang/String" 1053 "jdk/internal/util/Preconditions" "SIOOBE_FORMATTER" "Ljava/util/function/BiFunction;") : Cond) ∈ GW := tw4 (List.mem_of_getElem? (i := 30) rfl) rfl
theorem wd752 : ((Jvm.Cond.methodLink "java/lang/String" 1059 ⟨"jdk/internal/util/Preconditions","checkIndex","(IILjava/util/function/BiFunction;)I"⟩) : Cond) ∈ GW := tw4 (List.mem_of_getElem? (i := 32) rfl) rfl
theorem wd753 : ((Jvm.Cond.static ⟨"jdk/internal/util/Preconditions","checkIndex","(IILjava/util/function/BiFunction;)I"⟩) : Cond) ∈ GW := tw4 (List.mem_of_getElem? (i := 33) rfl) rfl
theorem wd754 : ((Jvm.Cond.code ⟨"jdk/internal/util/Preconditions","checkIndex","(IILjava/util/function/BiFunction;)I"⟩ prog_32_method_11_code 3 (Option.some Jvm.ClassFile.FieldType.int)) : Cond) ∈ GW := tw4 (List.mem_of_getElem? (i := 34) rfl) rfl
theorem wd1933 : ((Jvm.Cond.fieldLink "java/lang/String" 9 "java/lang/String" "value" "[B") : Cond) ∈ GW := tw9 (List.mem_of_getElem? (i := 13) rfl) rfl
theorem wd1934 : ((Jvm.Cond.fieldLink "java/lang/String" 15 "java/lang/String" "coder" "B") : Cond) ∈ GW := tw9 (List.mem_of_getElem? (i := 14) rfl) rfl
theorem wd22 : ((Jvm.Cond.initialized "jdk/internal/util/Preconditions") : Cond) ∈ GW := tw1 (List.mem_of_getElem? (i := 22) rfl) rfl
abbrev mJ0_length_8abf5 : YD := (RJ0, yJ0_length_8abf5, cJ0_length_8abf5, 1, (some .int), [], false, false)
abbrev mJ0_charAt_5068e : YD := (RJ0, yJ0_charAt_5068e, cJ0_charAt_5068e, 2, (some .char), [], false, false)
abbrev mJ0_coder_7d493 : YD := (RJ0, yJ0_coder_7d493, cJ0_coder_7d493, 1, (some .byte), [], false, false)
abbrev mJ0_isLatin1_aae02 : YD := (RJ0, yJ0_isLatin1_aae02, cJ0_isLatin1_aae02, 1, (some .boolean), [], false, false)
abbrev mJ1_charAt_3b067 : YD := (RJ1, yJ1_charAt_3b067, cJ1_charAt_3b067, 2, (some .char), [], false, false)
abbrev mJ0_checkIndex_df160 : YD := (RJ0, yJ0_checkIndex_df160, cJ0_checkIndex_df160, 2, none, [], false, false)
abbrev mJ3_checkIndex_8e157 : YD := (RJ3, yJ3_checkIndex_8e157, cJ3_checkIndex_8e157, 3, (some .int), [], false, false)
theorem dJ0_length_8abf5_0 : decode mJ0_length_8abf5.cd 0 = .ok (.aload_n 0, 1) := by decide +kernel
theorem dJ0_length_8abf5_1 : decode mJ0_length_8abf5.cd 1 = .ok (.getfield 9, 3) := by decide +kernel
theorem dJ0_length_8abf5_4 : decode mJ0_length_8abf5.cd 4 = .ok (.arraylength, 1) := by decide +kernel
theorem dJ0_length_8abf5_5 : decode mJ0_length_8abf5.cd 5 = .ok (.aload_n 0, 1) := by decide +kernel
theorem dJ0_length_8abf5_6 : decode mJ0_length_8abf5.cd 6 = .ok (.invokevirtual 335, 3) := by decide +kernel
theorem dJ0_length_8abf5_9 : decode mJ0_length_8abf5.cd 9 = .ok (.ishr, 1) := by decide +kernel
theorem dJ0_length_8abf5_10 : decode mJ0_length_8abf5.cd 10 = .ok (.ireturn, 1) := by decide +kernel
theorem dJ0_charAt_5068e_0 : decode mJ0_charAt_5068e.cd 0 = .ok (.aload_n 0, 1) := by decide +kernel
theorem dJ0_charAt_5068e_1 : decode mJ0_charAt_5068e.cd 1 = .ok (.invokevirtual 492, 3) := by decide +kernel
theorem dJ0_charAt_5068e_4 : decode mJ0_charAt_5068e.cd 4 = .ok (.ifCond .eq 12, 3) := by decide +kernel
theorem dJ0_charAt_5068e_7 : decode mJ0_charAt_5068e.cd 7 = .ok (.aload_n 0, 1) := by decide +kernel
theorem dJ0_charAt_5068e_8 : decode mJ0_charAt_5068e.cd 8 = .ok (.getfield 9, 3) := by decide +kernel
theorem dJ0_charAt_5068e_11 : decode mJ0_charAt_5068e.cd 11 = .ok (.iload_n 1, 1) := by decide +kernel
theorem dJ0_charAt_5068e_12 : decode mJ0_charAt_5068e.cd 12 = .ok (.invokestatic 495, 3) := by decide +kernel
theorem dJ0_charAt_5068e_15 : decode mJ0_charAt_5068e.cd 15 = .ok (.ireturn, 1) := by decide +kernel
theorem dJ0_charAt_5068e_16 : decode mJ0_charAt_5068e.cd 16 = .ok (.aload_n 0, 1) := by decide +kernel
theorem dJ0_charAt_5068e_17 : decode mJ0_charAt_5068e.cd 17 = .ok (.getfield 9, 3) := by decide +kernel
theorem dJ0_charAt_5068e_20 : decode mJ0_charAt_5068e.cd 20 = .ok (.iload_n 1, 1) := by decide +kernel
theorem dJ0_charAt_5068e_21 : decode mJ0_charAt_5068e.cd 21 = .ok (.invokestatic 498, 3) := by decide +kernel
theorem dJ0_charAt_5068e_24 : decode mJ0_charAt_5068e.cd 24 = .ok (.ireturn, 1) := by decide +kernel
theorem dJ0_coder_7d493_0 : decode mJ0_coder_7d493.cd 0 = .ok (.getstatic 38, 3) := by decide +kernel
theorem dJ0_coder_7d493_3 : decode mJ0_coder_7d493.cd 3 = .ok (.ifCond .eq 10, 3) := by decide +kernel
theorem dJ0_coder_7d493_6 : decode mJ0_coder_7d493.cd 6 = .ok (.aload_n 0, 1) := by decide +kernel
theorem dJ0_coder_7d493_7 : decode mJ0_coder_7d493.cd 7 = .ok (.getfield 15, 3) := by decide +kernel
theorem dJ0_coder_7d493_10 : decode mJ0_coder_7d493.cd 10 = .ok (.goto 4, 3) := by decide +kernel
theorem dJ0_coder_7d493_13 : decode mJ0_coder_7d493.cd 13 = .ok (.iconst 1, 1) := by decide +kernel
theorem dJ0_coder_7d493_14 : decode mJ0_coder_7d493.cd 14 = .ok (.ireturn, 1) := by decide +kernel
theorem dJ0_isLatin1_aae02_0 : decode mJ0_isLatin1_aae02.cd 0 = .ok (.getstatic 38, 3) := by decide +kernel
theorem dJ0_isLatin1_aae02_3 : decode mJ0_isLatin1_aae02.cd 3 = .ok (.ifCond .eq 14, 3) := by decide +kernel
theorem dJ0_isLatin1_aae02_6 : decode mJ0_isLatin1_aae02.cd 6 = .ok (.aload_n 0, 1) := by decide +kernel
theorem dJ0_isLatin1_aae02_7 : decode mJ0_isLatin1_aae02.cd 7 = .ok (.getfield 15, 3) := by decide +kernel
theorem dJ0_isLatin1_aae02_10 : decode mJ0_isLatin1_aae02.cd 10 = .ok (.ifCond .ne 7, 3) := by decide +kernel
theorem dJ0_isLatin1_aae02_13 : decode mJ0_isLatin1_aae02.cd 13 = .ok (.iconst 1, 1) := by decide +kernel
theorem dJ0_isLatin1_aae02_14 : decode mJ0_isLatin1_aae02.cd 14 = .ok (.goto 4, 3) := by decide +kernel
theorem dJ0_isLatin1_aae02_17 : decode mJ0_isLatin1_aae02.cd 17 = .ok (.iconst 0, 1) := by decide +kernel
theorem dJ0_isLatin1_aae02_18 : decode mJ0_isLatin1_aae02.cd 18 = .ok (.ireturn, 1) := by decide +kernel
theorem dJ1_charAt_3b067_0 : decode mJ1_charAt_3b067.cd 0 = .ok (.iload_n 1, 1) := by decide +kernel
theorem dJ1_charAt_3b067_1 : decode mJ1_charAt_3b067.cd 1 = .ok (.aload_n 0, 1) := by decide +kernel
theorem dJ1_charAt_3b067_2 : decode mJ1_charAt_3b067.cd 2 = .ok (.arraylength, 1) := by decide +kernel
theorem dJ1_charAt_3b067_3 : decode mJ1_charAt_3b067.cd 3 = .ok (.invokestatic 9, 3) := by decide +kernel
theorem dJ1_charAt_3b067_6 : decode mJ1_charAt_3b067.cd 6 = .ok (.aload_n 0, 1) := by decide +kernel
theorem dJ1_charAt_3b067_7 : decode mJ1_charAt_3b067.cd 7 = .ok (.iload_n 1, 1) := by decide +kernel
theorem dJ1_charAt_3b067_8 : decode mJ1_charAt_3b067.cd 8 = .ok (.baload, 1) := by decide +kernel
theorem dJ1_charAt_3b067_9 : decode mJ1_charAt_3b067.cd 9 = .ok (.sipush 255, 3) := by decide +kernel
theorem dJ1_charAt_3b067_12 : decode mJ1_charAt_3b067.cd 12 = .ok (.iand, 1) := by decide +kernel
theorem dJ1_charAt_3b067_13 : decode mJ1_charAt_3b067.cd 13 = .ok (.i2c, 1) := by decide +kernel
theorem dJ1_charAt_3b067_14 : decode mJ1_charAt_3b067.cd 14 = .ok (.ireturn, 1) := by decide +kernel
theorem dJ0_checkIndex_df160_0 : decode mJ0_checkIndex_df160.cd 0 = .ok (.iload_n 0, 1) := by decide +kernel
theorem dJ0_checkIndex_df160_1 : decode mJ0_checkIndex_df160.cd 1 = .ok (.iload_n 1, 1) := by decide +kernel
theorem dJ0_checkIndex_df160_2 : decode mJ0_checkIndex_df160.cd 2 = .ok (.getstatic 1053, 3) := by decide +kernel
theorem dJ0_checkIndex_df160_5 : decode mJ0_checkIndex_df160.cd 5 = .ok (.invokestatic 1059, 3) := by decide +kernel
theorem dJ0_checkIndex_df160_8 : decode mJ0_checkIndex_df160.cd 8 = .ok (.pop, 1) := by decide +kernel
theorem dJ0_checkIndex_df160_9 : decode mJ0_checkIndex_df160.cd 9 = .ok (.return_, 1) := by decide +kernel
theorem dJ3_checkIndex_8e157_0 : decode mJ3_checkIndex_8e157.cd 0 = .ok (.iload_n 0, 1) := by decide +kernel
theorem dJ3_checkIndex_8e157_1 : decode mJ3_checkIndex_8e157.cd 1 = .ok (.ifCond .lt 8, 3) := by decide +kernel
theorem dJ3_checkIndex_8e157_4 : decode mJ3_checkIndex_8e157.cd 4 = .ok (.iload_n 0, 1) := by decide +kernel
theorem dJ3_checkIndex_8e157_5 : decode mJ3_checkIndex_8e157.cd 5 = .ok (.iload_n 1, 1) := by decide +kernel
theorem dJ3_checkIndex_8e157_6 : decode mJ3_checkIndex_8e157.cd 6 = .ok (.if_icmp .lt 10, 3) := by decide +kernel
theorem dJ3_checkIndex_8e157_9 : decode mJ3_checkIndex_8e157.cd 9 = .ok (.aload_n 2, 1) := by decide +kernel
theorem dJ3_checkIndex_8e157_10 : decode mJ3_checkIndex_8e157.cd 10 = .ok (.iload_n 0, 1) := by decide +kernel
theorem dJ3_checkIndex_8e157_11 : decode mJ3_checkIndex_8e157.cd 11 = .ok (.iload_n 1, 1) := by decide +kernel
theorem dJ3_checkIndex_8e157_12 : decode mJ3_checkIndex_8e157.cd 12 = .ok (.invokestatic 95, 3) := by decide +kernel
theorem dJ3_checkIndex_8e157_15 : decode mJ3_checkIndex_8e157.cd 15 = .ok (.athrow, 1) := by decide +kernel
theorem dJ3_checkIndex_8e157_16 : decode mJ3_checkIndex_8e157.cd 16 = .ok (.iload_n 0, 1) := by decide +kernel
theorem dJ3_checkIndex_8e157_17 : decode mJ3_checkIndex_8e157.cd 17 = .ok (.ireturn, 1) := by decide +kernel
section RulesStr
variable {Y : YD} {k : KD} {Q : RS → Nat → AH → Prop} {b : Nat × Nat} {pc : Nat} {ls st : List AV} {n : Nat} {h : AH}
theorem s_getSV {i idx : Nat} (hd : decode Y.cd pc = .ok (.getfield idx, 3)) (hi : i < 10) (hL : Cond.fieldLink Y.own idx "java/lang/String" "value" "[B" ∈ GW) (kk : Wp Y k Q b (pc + 3) ls (zR (-(i : Int) - 200) :: st) n h) : Wp Y k Q b pc ls (zR (-(i : Int) - 1) :: st) n h := by
  intro p l e R s m args below meth cd A D tc ad H locs cells slots ls' C hH hB hl
  have C0 := C
  obtain ⟨⟨hx, hb, hml, hr, hlk⟩, hown, hts, hK, hA, hR, hst, hE, hin, hexc, hlaw⟩ := C0
  have q := kk p l e R s m args below meth cd A D tc ad H locs cells slots ls' C hH hB hl
  rw [List.map_cons, zv_ref (by omega)] at q ⊢
  exact vk_getf hx hb (hE.2.2.2.2.2.2.1.1 i hi).2.2.1 hH.2.2 hown (hts _ hL) (fun _ z => z) hd q
theorem s_getSC {i idx : Nat} (hd : decode Y.cd pc = .ok (.getfield idx, 3)) (hi : i < 10) (hL : Cond.fieldLink Y.own idx "java/lang/String" "coder" "B" ∈ GW) (kk : Wp Y k Q b (pc + 3) ls (zI 0 :: st) n h) : Wp Y k Q b pc ls (zR (-(i : Int) - 1) :: st) n h := by
  intro p l e R s m args below meth cd A D tc ad H locs cells slots ls' C hH hB hl
  have C0 := C
  obtain ⟨⟨hx, hb, hml, hr, hlk⟩, hown, hts, hK, hA, hR, hst, hE, hin, hexc, hlaw⟩ := C0
  have q := kk p l e R s m args below meth cd A D tc ad H locs cells slots ls' C hH hB hl
  rw [List.map_cons, zv_ref (by omega)]
  exact vk_getf hx hb (hE.2.2.2.2.2.2.1.1 i hi).2.1 hH.2.2 hown (hts _ hL) (fun _ z => z) hd q
theorem s_getCS {idx : Nat} (hd : decode Y.cd pc = .ok (.getstatic idx, 3)) (hL : Cond.fieldLink Y.own idx "java/lang/String" "COMPACT_STRINGS" "Z" ∈ GW) (kk : Wp Y k Q b (pc + 3) ls (zI 1 :: st) n h) : Wp Y k Q b pc ls st n h := by
  intro p l e R s m args below meth cd A D tc ad H locs cells slots ls' C hH hB hl
  have C0 := C
  obtain ⟨⟨hx, hb, hml, hr, hlk⟩, hown, hts, hK, hA, hR, hst, hE, hin, hexc, hlaw⟩ := C0
  have q := kk p l e R s m args below meth cd A D tc ad H locs cells slots ls' C hH hB hl
  exact va_gets hx hb hE.2.2.2.2.1 hH.2.2 hown (hts _ hL) (fun _ z => z) hd q
theorem s_tlen {i : Nat} (hd : decode Y.cd pc = .ok (.arraylength, 1)) (hi : i < 10) (kk : Wp Y k Q b (pc + 1) ls (zI ((zStrL.getD i 0 : Nat) : Int) :: st) n h) : Wp Y k Q b pc ls (zR (-(i : Int) - 200) :: st) n h := by
  intro p l e R s m args below meth cd A D tc ad H locs cells slots ls' C hH hB hl
  have C0 := C
  obtain ⟨⟨hx, hb, hml, hr, hlk⟩, hown, hts, hK, hA, hR, hst, hE, hin, hexc, hlaw⟩ := C0
  have q := kk p l e R s m args below meth cd A D tc ad H locs cells slots ls' C hH hB hl
  rw [List.map_cons, zv_ref (by omega)]
  exact va_tlen hx hb (hE.2.2.2.2.2.2.1.1 i hi).2.2.2 hH.2.2 rfl hd q
theorem zStrL_small : ∀ i, i < 10 → zStrL.getD i 0 < 4000 := by decide
theorem s_tbald {i : Nat} {x : Int} (hd : decode Y.cd pc = .ok (.baload, 1)) (hi : i < 10) (x0 : 0 ≤ x) (x1 : x < (zStrL.getD i 0 : Nat)) (kk : Wp Y k Q b (pc + 1) ls (zI (((zStrB.getD i []).getD x.toNat 0).toInt) :: st) n h) : Wp Y k Q b pc ls (zI x :: zR (-(i : Int) - 200) :: st) n h := by
  intro p l e R s m args below meth cd A D tc ad H locs cells slots ls' C hH hB hl
  have C0 := C
  obtain ⟨⟨hx, hb, hml, hr, hlk⟩, hown, hts, hK, hA, hR, hst, hE, hin, hexc, hlaw⟩ := C0
  have q := kk p l e R s m args below meth cd A D tc ad H locs cells slots ls' C hH hB hl
  have hN := zStrL_small i hi
  rw [List.map_cons, List.map_cons, zv_ref (c := -(i : Int) - 200) (by omega)]
  refine va_tb hx hb (hE.2.2.2.2.2.2.1.1 i hi).2.2.2 hH.2.2 (ixin x0 x1 hN) (v := zv ad (zI (((zStrB.getD i []).getD x.toNat 0).toInt))) ?_ hd q
  rw [ixi x0 (by omega)]
  show Value.int _ = Value.int _
  rw [ofI]
/-- a call of a String constant's method -/
theorem s_callVS {Y' : YD} {P : RS → Nat → AH → Prop} {fr mc ms idx na i : Nat} {as stk : List AV} (hd : decode Y.cd pc = .ok (.invokevirtual idx, 3)) (hL : LkV Y.own idx Y' na) (hex : Y'.exc = []) (hi : i < 10) (hc : Y'.nm.cls = "java/lang/String") (hs : stk = as.reverse ++ zR (-(i : Int) - 1) :: st) (hna : as.length = na) (hst8 : (st.map zcat).sum ≤ 8) (hS : Sp Y' k.md fr mc ms (zR (-(i : Int) - 1) :: as) n h P) (hfr : fr + 1 ≤ k.fr) (hmc : mc ≤ b.1) (hms : ms ≤ b.2)
    (kk : ∀ (v : Option AV) (n' : Nat) (h' : AH), P (.inl v) n' h' → (k.md = false → n' = n + mc) → Wp Y k Q (b.1 - mc, b.2 - ms) (pc + 3) ls (v.toList ++ st) n' h')
    (kx : ∀ (E : String) (n' : Nat) (h' : AH), k.md = true → P (.inr E) n' h' → Wx Y k Q (b.1 - mc, b.2 - ms) pc ls n' h' E) : Wp Y k Q b pc ls stk n h := by
  intro p l e R s m args below meth cd A D tc ad H locs cells slots ls' C hH hB hl
  have C0 := C
  obtain ⟨⟨hx, hb, hml, hr, hlk⟩, hown, hts, hK, hA, hR, hst, hE, hin, hexc, hlaw⟩ := C0
  intro T hT X
  obtain ⟨⟨q1, q2, q3, q4, q5⟩, q6, q7⟩ := hL
  have e1 : yw Y' = .code Y'.nm Y'.cd Y'.nL Y'.ret := by unfold yw; rw [if_pos hex]
  have hM := hS l D tc ad H.size hst
  rw [e1] at hM q3
  have ho0 : -(i : Int) - 1 ≠ 0 := by omega
  have cw : CallW R s args Y.own Y'.nm.cls idx Y'.nm Y'.cd Y'.nL Y'.ret (Cond.code Y'.nm Y'.cd Y'.nL Y'.ret :: GW) (zRm fr mc ms) mc ms na := by
    refine cwV na hts (gw_good ?_) rfl rfl rfl ⟨rfl, q4.1, q4.2.1, q4.2.2⟩ ⟨Nat.le_trans hfr hR.1, ?_⟩
    · intro w hw
      rcases List.mem_append.mp hw with hw | hw
      · simp only [List.mem_cons, List.not_mem_nil, or_false] at hw
        rcases hw with rfl | rfl | rfl | rfl
        · exact q1
        · exact q6
        · exact q7
        · exact q2
      · rcases List.mem_cons.mp hw with rfl | hw
        · exact q3
        · exact hw
    · show 8 + (Y'.nL + 11) + 60 * fr ≤ R.locals
      have := hR.2.1
      have : 60 * (fr + 1) ≤ 60 * k.fr := Nat.mul_le_mul_left 60 hfr
      omega
  have hN : k.md = false → ∀ j : Nat, ad ((n : Int) + 1 + j) = H.size + j := fun z => (z_size X hT hH (hB.2.2 z).2).2
  have hB1 := hB.1
  have hB2 := hB.2.1
  have hrec := vk_recv hE.2.2.2.2.2.2.1 hi hH.2.2
  have hp : PreV s H Y'.nm.cls (ad (-(i : Int) - 1)) (zPc k.md D tc ad H.size n h (zR (-(i : Int) - 1) :: as)) (as.map (zv ad)) := ⟨z_blind, by rw [hc]; exact hrec, fun U hU hW => by
    have := z_pre (as := zR (-(i : Int) - 1) :: as) hK hA hE hH hN U hU hW
    rw [List.map_cons, zv_ref ho0] at this
    exact this⟩
  have hrun : vx_Run p l e R s m args below meth cd H locs cells slots mc ms (F0 m pc ls' (stk.map (zv ad))) (st.map (zv ad)) (zQc P k.md mc D tc ad (va_A (zw k.md ad tc n h) H.size) (Value.ref (ad (-(i : Int) - 1)) :: as.map (zv ad)).toArray) (zXc P k.md D tc ad (va_A (zw k.md ad tc n h) H.size)) (va_A (zw k.md ad tc n h) H.size) := vx_runV (g := F0 m pc ls' (stk.map (zv ad))) (As := as.map (zv ad)) (rest := st.map (zv ad)) ⟨hx, hb, hml, hown, hts⟩ hM cw hp rfl (by rw [List.length_map]; exact hna) hl.1 (by rw [hs]; simp [zv_ref ho0]) (lv_room (by rw [zv_cats]; exact hst8)) hd ⟨by have := hR.2.2.1; omega, by have := hR.2.2.2; omega⟩
  exact z_core C hH hB hl hT X hrun hmc hms kk kx
/-- a reference that nobody knows: another address of a cell that is nowhere -/
theorem fresh_cell (h : AH) : ∃ c0 : Int, 1000 < c0 ∧ ∀ (c : Int) (f : Nat), 0 ≤ c → c ≤ 200 → f ≤ 200 → h c f ≠ c0 := by
  have one : ∀ (c : Int) (N : Nat), ∃ B : Int, ∀ f : Nat, f ≤ N → h c f ≤ B := fun c N => by
    induction N with
    | zero => exact ⟨h c 0, fun f hf => by rw [show f = 0 by omega]; exact Int.le_refl _⟩
    | succ N ih =>
      obtain ⟨B, hB⟩ := ih
      refine ⟨max B (h c ((N + 1 : Nat) : Int)), fun f hf => ?_⟩
      by_cases e : f = N + 1
      · rw [e]; omega
      · have := hB f (by omega); omega
  have all : ∀ M : Nat, ∃ B : Int, ∀ (c f : Nat), c ≤ M → f ≤ 200 → h c f ≤ B := fun M => by
    induction M with
    | zero =>
      obtain ⟨B, hB⟩ := one 0 200
      exact ⟨B, fun c f hc hf => by rw [show c = 0 by omega]; exact hB f hf⟩
    | succ M ih =>
      obtain ⟨B, hB⟩ := ih
      obtain ⟨B', hB'⟩ := one ((M + 1 : Nat) : Int) 200
      refine ⟨max B B', fun c f hc hf => ?_⟩
      by_cases e : c = M + 1
      · rw [e]; have := hB' f hf; omega
      · have := hB c f (by omega) hf; omega
  obtain ⟨B, hB⟩ := all 200
  refine ⟨max (B + 1) 1001, by omega, fun c f c0 c1 f1 e => ?_⟩
  have := hB c.toNat f (by omega) f1
  rw [show ((c.toNat : Nat) : Int) = c by omega] at this
  omega
theorem FT_small : ∀ j : Fin 14, (FT.getD j.val []).length ≤ 200 := by decide
theorem zw_ad {md : Bool} {ad ad' : Int → Nat} {tc : Nat → ClassId} {h : AH} {c0 : Int} (h0 : 1000 < c0) (hh : ∀ (c : Int) (f : Nat), 0 ≤ c → c ≤ 200 → f ≤ 200 → h c f ≠ c0) (ha : ∀ c, c ≠ c0 → ad' c = ad c) (hoff : ∀ j : Fin 14, ∀ t ∈ FT.getD j.val [], t.2 < 500) : zw md ad' tc 137 h = zw md ad tc 137 h := by
  unfold zw
  refine List.map_congr_left (fun j hj => ?_)
  have hj : j < 137 := List.mem_range.mp hj
  rw [ha _ (by omega)]
  congr 1
  unfold zc
  repeat (first | rfl | split)
  congr 2
  unfold zfs
  apply List.ext_getElem?
  intro i
  rw [List.getElem?_mapIdx, List.getElem?_mapIdx]
  cases ht : (FT.getD (LAY.getD j (0, 0)).1 [])[i]? with
  | none => rfl
  | some t =>
    simp only [Option.map_some]
    congr 1
    have hk : (LAY.getD j (0, 0)).1 < 14 := by
      by_cases z : (LAY.getD j (0, 0)).1 < 14
      · exact z
      · have l14 : FT.length ≤ 14 := by decide
        have e0 : FT[(LAY.getD j (0, 0)).1]? = none := List.getElem?_eq_none (by omega)
        rw [List.getD_eq_getElem?_getD, e0] at ht
        cases ht
    have hi : i < (FT.getD (LAY.getD j (0, 0)).1 []).length := (List.getElem?_eq_some_iff.mp ht).1
    have hl := FT_small ⟨_, hk⟩
    have ho := hoff ⟨_, hk⟩ t (List.mem_of_getElem? ht)
    unfold zf
    split
    · rfl
    · split
      · rfl
      · split
        · unfold zv zR
          simp only
          have := hh ((j : Int) + 1) i (by omega) (by omega) (by simp only at hl; omega)
          rw [ha _ this]
        · split
          · rw [ha _ (by omega)]
          · rfl
theorem FT_off : ∀ j : Fin 14, ∀ t ∈ FT.getD j.val [], t.2 < 500 := by decide
theorem s_getQ {idx : Nat} {ref : String} {x y : Int} (hd : decode Y.cd pc = .ok (.getstatic idx, 3)) (hL : Cond.fieldLink Y.own idx "jdk/internal/util/Preconditions" "SIOOBE_FORMATTER" "Ljava/util/function/BiFunction;" ∈ GW) (hlw : Y.law = false) (hmd : k.md = true) (hls : ls = [zI x, zI y]) (hst : st = [zI y, zI x]) (hQ : ∀ r n' h', Q r n' h' → r = .inl none ∧ n' = 137 ∧ h' = h)
    (k0 : Wp Y k Q b (pc + 3) ls (none :: st) 137 h) (k1 : ∀ c0 : Int, c0 ≠ 0 → Wp Y k Q b (pc + 3) ls (zR c0 :: st) 137 h) : Wp Y k Q b pc ls st 137 h := by
  intro p l e R s m args below meth cd A D tc ad H locs cells slots ls' C hH hB hl
  have C0 := C
  obtain ⟨⟨hx, hb, hml, hr, hlk⟩, hown, hts, hK, hA, hR, hst', hE, hin, hexc, hlaw⟩ := C0
  rcases hE.2.2.2.2.2.1 with z | ⟨t, z⟩
  · have q := k0 p l e R s m args below meth cd A D tc ad H locs cells slots ls' C hH hB hl
    exact va_gets hx hb z hH.2.2 hown (hts _ hL) (fun _ w => w) hd q
  obtain ⟨c0, h0, hh⟩ := fresh_cell h
  obtain ⟨ad', had⟩ : ∃ ad' : Int → Nat, ad' = fun c => if c = c0 then t else ad c := ⟨_, rfl⟩
  have ha : ∀ c, c ≠ c0 → ad' c = ad c := fun c hc => by rw [had]; exact if_neg hc
  have hc0 : ad' c0 = t := by rw [had]; exact if_pos rfl
  have ew : zw k.md ad' tc 137 h = zw k.md ad tc 137 h := zw_ad h0 hh ha FT_off
  have f1 : (fun i : Nat => ad' (-(i : Int) - 1)) = fun i : Nat => ad (-(i : Int) - 1) := funext fun i => ha _ (by omega)
  have f2 : (fun i : Nat => ad' (-(i : Int) - 200)) = fun i : Nat => ad (-(i : Int) - 200) := funext fun i => ha _ (by omega)
  have hE' : zE ad' A s s.heap := by
    unfold zE at hE ⊢
    rw [f1, f2]
    refine ⟨hE.1, hE.2.1, hE.2.2.1, hE.2.2.2.1, hE.2.2.2.2.1, hE.2.2.2.2.2.1, hE.2.2.2.2.2.2.1, fun i q hq => ?_, hE.2.2.2.2.2.2.2.2.1, hE.2.2.2.2.2.2.2.2.2⟩
    rw [ha _ (by omega)]
    exact hE.2.2.2.2.2.2.2.1 i q hq
  have q := k1 c0 (by omega) p l e R s m args below meth cd A D tc ad' H locs cells slots ls' ⟨⟨hx, hb, hml, hr, hlk⟩, hown, hts, hK, hA, hR, hst', hE', hin, hexc, fun w => by rw [hlw] at w; cases w⟩ ⟨by rw [ew]; exact hH.1, by rw [ew]; exact hH.2.1, hH.2.2⟩ ⟨hB.1, hB.2.1, fun w => by rw [hmd] at w; cases w⟩ (by rw [hls] at hl ⊢; exact hl)
  rw [List.map_cons, zv_ref (by omega), hc0] at q
  have es : st.map (zv ad') = st.map (zv ad) := by rw [hst]; rfl
  rw [es] at q
  refine va_gets hx hb z hH.2.2 hown (hts _ hL) (fun _ w => w) hd ?_
  intro T hT X
  obtain ⟨t', a1, b1⟩ := q T hT X
  refine ⟨t', a1, ?_⟩
  unfold zFin at b1 ⊢
  rw [if_neg (by rw [hlw]; decide)] at b1 ⊢
  obtain ⟨o, b1, b2, b3⟩ := b1
  refine ⟨o, b1, b2, ?_⟩
  rcases b3 with ⟨⟨⟨v, n', h', e1, z1, w1⟩, f⟩, g⟩ | ⟨q', e1, E, ce, L, ⟨⟨n', h', y1, z1, w1⟩, f⟩, g⟩
  · obtain ⟨r1, r2, r3⟩ := hQ _ _ _ z1
    cases r1
    subst r2
    rw [r3] at z1 w1
    exact Or.inl ⟨⟨⟨none, 137, h, e1, z1, by rw [← ew]; exact w1.1, by rw [← ew]; exact w1.2.1, fun w => by rw [hmd] at w; cases w⟩, f⟩, g⟩
  · obtain ⟨r1, -⟩ := hQ _ _ _ z1
    cases r1
end RulesStr

theorem kJ0_335 : LkV RJ0 335 mJ0_coder_7d493 0 := ⟨⟨wd730, wd20, (by unfold yw; rw [if_pos rfl]; exact wd733), ⟨by decide, by decide, by decide +kernel⟩, by decide⟩, wd731, wd732⟩
theorem kJ0_492 : LkV RJ0 492 mJ0_isLatin1_aae02 0 := ⟨⟨wd740, wd20, (by unfold yw; rw [if_pos rfl]; exact wd743), ⟨by decide, by decide, by decide +kernel⟩, by decide⟩, wd741, wd742⟩
theorem kJ0_495 : LkS RJ0 495 mJ1_charAt_3b067 2 := ⟨⟨wd744, wd21, (by unfold yw; rw [if_pos rfl]; exact wd746), ⟨by decide, by decide, by decide +kernel⟩, by decide⟩, wd745⟩
theorem kJ1_9 : LkS RJ1 9 mJ0_checkIndex_df160 2 := ⟨⟨wd747, wd20, (by unfold yw; rw [if_pos rfl]; exact wd749), ⟨by decide, by decide, by decide +kernel⟩, by decide⟩, wd748⟩
theorem kJ0_1059 : LkS RJ0 1059 mJ3_checkIndex_8e157 3 := ⟨⟨wd752, wd22, (by unfold yw; rw [if_pos rfl]; exact wd754), ⟨by decide, by decide, by decide +kernel⟩, by decide⟩, wd753⟩
theorem kX6_76 : LkV RX6 76 mJ0_length_8abf5 0 := ⟨⟨wd726, wd20, (by unfold yw; rw [if_pos rfl]; exact wd729), ⟨by decide, by decide, by decide +kernel⟩, by decide⟩, wd727, wd728⟩
theorem kX6_82 : LkV RX6 82 mJ0_charAt_5068e 1 := ⟨⟨wd736, wd20, (by unfold yw; rw [if_pos rfl]; exact wd739), ⟨by decide, by decide, by decide +kernel⟩, by decide⟩, wd737, wd738⟩
theorem one_cat {as : List AV} (h : as.all (fun v => zcat v == 1) = true) : ∀ v ∈ as, zcat v = 1 := fun v hv => by
  have := List.all_eq_true.mp h v hv
  simpa using this
theorem j_coder {fr i : Nat} {h : AH} (hi : i < 10) : Sp mJ0_coder_7d493 true fr 0 0 [zR (-(i : Int) - 1)] 137 h (rI (fun x h' => h' = h ∧ x = 0)) := by
  refine Sp.ofF (by decide +kernel) rfl (by decide) rfl rfl (one_cat rfl) (Nat.le_of_ble_eq_true rfl) ?_
  show Wp mJ0_coder_7d493 (kR fr 0 0) (rI (fun x h' => h' = h ∧ x = 0)) (0, 0) 0 [zR (-(i : Int) - 1)] [] 137 h
  refine s_getCS dJ0_coder_7d493_0 wd734 ?_
  refine s_if_eq (tgt := 13) dJ0_coder_7d493_3 (by decide) ⟨by decide, by decide⟩ (fun z => absurd z (by decide)) (fun _ => ?_)
  refine s_aload_n (x := -(i : Int) - 1) dJ0_coder_7d493_6 rfl ?_
  refine s_getSC dJ0_coder_7d493_7 hi wd1934 ?_
  refine s_goto (tgt := 14) dJ0_coder_7d493_10 (by decide) ?_
  exact s_ireturn dJ0_coder_7d493_14 ⟨.byte, rfl, by decide⟩ ⟨_, rfl, rfl, rfl, rfl⟩ (fun z => by cases z)
theorem j_isLatin1 {fr i : Nat} {h : AH} (hi : i < 10) : Sp mJ0_isLatin1_aae02 true fr 0 0 [zR (-(i : Int) - 1)] 137 h (rI (fun x h' => h' = h ∧ x = 1)) := by
  refine Sp.ofF (by decide +kernel) rfl (by decide) rfl rfl (one_cat rfl) (Nat.le_of_ble_eq_true rfl) ?_
  show Wp mJ0_isLatin1_aae02 (kR fr 0 0) (rI (fun x h' => h' = h ∧ x = 1)) (0, 0) 0 [zR (-(i : Int) - 1)] [] 137 h
  refine s_getCS dJ0_isLatin1_aae02_0 wd734 ?_
  refine s_if_eq (tgt := 17) dJ0_isLatin1_aae02_3 (by decide) ⟨by decide, by decide⟩ (fun z => absurd z (by decide)) (fun _ => ?_)
  refine s_aload_n (x := -(i : Int) - 1) dJ0_isLatin1_aae02_6 rfl ?_
  refine s_getSC dJ0_isLatin1_aae02_7 hi wd1934 ?_
  refine s_if_ne (tgt := 17) dJ0_isLatin1_aae02_10 (by decide) ⟨by decide, by decide⟩ (fun z => absurd rfl z) (fun _ => ?_)
  refine s_iconst dJ0_isLatin1_aae02_13 ?_
  refine s_goto (tgt := 18) dJ0_isLatin1_aae02_14 (by decide) ?_
  exact s_ireturn dJ0_isLatin1_aae02_18 ⟨.boolean, rfl, by decide⟩ ⟨_, rfl, rfl, rfl, rfl⟩ (fun z => by cases z)
theorem shr0 {x : Int} (h0 : 0 ≤ x) (h1 : x < 4000) : True := trivial
theorem j_length {fr i : Nat} {h : AH} (hf : 1 ≤ fr) (hi : i < 10) : Sp mJ0_length_8abf5 true fr 0 0 [zR (-(i : Int) - 1)] 137 h (rI (fun x h' => h' = h ∧ x = ((zStrL.getD i 0 : Nat) : Int))) := by
  refine Sp.ofF (by decide +kernel) rfl (by decide) rfl rfl (one_cat rfl) (Nat.le_of_ble_eq_true rfl) ?_
  show Wp mJ0_length_8abf5 (kR fr 0 0) (rI (fun x h' => h' = h ∧ x = ((zStrL.getD i 0 : Nat) : Int))) (0, 0) 0 [zR (-(i : Int) - 1)] [] 137 h
  have hN := zStrL_small i hi
  refine s_aload_n (x := -(i : Int) - 1) dJ0_length_8abf5_0 rfl ?_
  refine s_getSV dJ0_length_8abf5_1 hi wd1933 ?_
  refine s_tlen dJ0_length_8abf5_4 hi ?_
  refine s_aload_n (x := -(i : Int) - 1) dJ0_length_8abf5_5 rfl ?_
  refine s_callVS (as := []) (st := [zI ((zStrL.getD i 0 : Nat) : Int)]) dJ0_length_8abf5_6 kJ0_335 rfl hi rfl rfl rfl (Nat.le_of_ble_eq_true rfl) (j_coder (fr := fr - 1) hi) (show fr - 1 + 1 ≤ fr by omega) (Nat.zero_le _) (Nat.zero_le _) (fun v n' h' hP _ => ?_) (fun E n' h' _ z => (rI_nt _ _ _ z).elim)
  obtain ⟨x, e, rfl, rfl, rfl⟩ := hP
  cases e
  refine s_ishrN (x := ((zStrL.getD i 0 : Nat) : Int)) (y := 0) dJ0_length_8abf5_9 ⟨by omega, by omega⟩ (by decide) (by decide) ?_
  refine s_ireturn dJ0_length_8abf5_10 ⟨.int, rfl, rfl⟩ ⟨_, rfl, rfl, rfl, ?_⟩ (fun z => by cases z)
  show ((zStrL.getD i 0 : Nat) : Int) / 2 ^ (0 : Int).toNat = _
  rw [show (2 : Int) ^ (0 : Int).toNat = 1 by decide, Int.ediv_one]
theorem j_check3 {fr : Nat} {x y : Int} {f : AV} {h : AH} (hf : zcat f = 1) (x0 : 0 ≤ x) (x1 : x < y) (y1 : y < 4000) : Sp mJ3_checkIndex_8e157 true fr 0 0 [zI x, zI y, f] 137 h (rI (fun r h' => h' = h ∧ r = x)) := by
  refine Sp.ofF (by decide +kernel) rfl (by decide) rfl rfl (fun v hv => ?_) (Nat.le_of_ble_eq_true rfl) ?_
  · simp only [List.mem_cons, List.not_mem_nil, or_false] at hv
    rcases hv with rfl | rfl | rfl
    · rfl
    · rfl
    · exact hf
  show Wp mJ3_checkIndex_8e157 (kR fr 0 0) (rI (fun r h' => h' = h ∧ r = x)) (0, 0) 0 [zI x, zI y, f] [] 137 h
  refine s_fgt (fgt_c (fgt_c (fgt_n _ fgt_0))) ?_
  refine s_iload_n (x := x) dJ3_checkIndex_8e157_0 rfl ?_
  refine s_if_lt (tgt := 9) dJ3_checkIndex_8e157_1 (by decide) ⟨by omega, by omega⟩ (fun z => by omega) (fun _ => ?_)
  refine s_iload_n (x := x) dJ3_checkIndex_8e157_4 rfl ?_
  refine s_iload_n (x := y) dJ3_checkIndex_8e157_5 rfl ?_
  refine s_icmp_lt (tgt := 16) dJ3_checkIndex_8e157_6 (by decide) ⟨by omega, by omega⟩ ⟨by omega, by omega⟩ (fun _ => ?_) (fun z => by omega)
  refine s_iload_n (x := x) dJ3_checkIndex_8e157_16 rfl ?_
  exact s_ireturn dJ3_checkIndex_8e157_17 ⟨.int, rfl, rfl⟩ ⟨_, rfl, rfl, rfl, rfl⟩ (fun z => by cases z)
theorem j_check2 {fr : Nat} {x y : Int} {h : AH} (hf : 1 ≤ fr) (x0 : 0 ≤ x) (x1 : x < y) (y1 : y < 4000) : Sp mJ0_checkIndex_df160 true fr 0 0 [zI x, zI y] 137 h (rV (fun h' => h' = h)) := by
  refine Sp.ofF (by decide +kernel) rfl (by decide) rfl rfl (one_cat rfl) (Nat.le_of_ble_eq_true rfl) ?_
  show Wp mJ0_checkIndex_df160 (kR fr 0 0) (rV (fun h' => h' = h)) (0, 0) 0 [zI x, zI y] [] 137 h
  have rest : ∀ f : AV, zcat f = 1 → Wp mJ0_checkIndex_df160 (kR fr 0 0) (rV (fun h' => h' = h)) (0, 0) 5 [zI x, zI y] [f, zI y, zI x] 137 h := fun f hf1 => by
    refine s_callS (as := [zI x, zI y, f]) (st := []) dJ0_checkIndex_df160_5 kJ0_1059 rfl rfl (Nat.le_of_ble_eq_true rfl) (j_check3 (fr := fr - 1) hf1 x0 x1 y1) (show fr - 1 + 1 ≤ fr by omega) (Nat.zero_le _) (Nat.zero_le _) (fun v n' h' hP _ => ?_) (fun E n' h' _ z => (rI_nt _ _ _ z).elim)
    obtain ⟨r, e, rfl, rfl, rfl⟩ := hP
    cases e
    refine s_pop dJ0_checkIndex_df160_8 rfl ?_
    exact s_return dJ0_checkIndex_df160_9 rfl ⟨rfl, rfl, rfl⟩ (fun z => by cases z)
  refine s_iload_n (x := x) dJ0_checkIndex_df160_0 rfl ?_
  refine s_iload_n (x := y) dJ0_checkIndex_df160_1 rfl ?_
  exact s_getQ (ref := "") (x := x) (y := y) dJ0_checkIndex_df160_2 wd750 rfl rfl rfl rfl (fun r n' h' z => ⟨z.1, z.2.1, z.2.2⟩) (rest none rfl) (fun c0 _ => rest (zR c0) rfl)
theorem str_byte : ∀ i, i < 10 → ∀ j, j < zStrL.getD i 0 → w16 (bAnd (((zStrB.getD i []).getD j 0).toInt) 255) = ((zStrB.getD i []).getD j 0).toInt ∧ narrow .char (.int (Int32.ofInt (((zStrB.getD i []).getD j 0).toInt))) = .int (Int32.ofInt (((zStrB.getD i []).getD j 0).toInt)) ∧ (97 ≤ ((zStrB.getD i []).getD j 0).toInt ∧ ((zStrB.getD i []).getD j 0).toInt ≤ 122) := by decide +kernel
theorem j_charAt1 {fr i : Nat} {x : Int} {h : AH} (hf : 2 ≤ fr) (hi : i < 10) (x0 : 0 ≤ x) (x1 : x < (zStrL.getD i 0 : Nat)) : Sp mJ1_charAt_3b067 true fr 0 0 [zR (-(i : Int) - 200), zI x] 137 h (rI (fun r h' => h' = h ∧ r = ((zStrB.getD i []).getD x.toNat 0).toInt)) := by
  refine Sp.ofF (by decide +kernel) rfl (by decide) rfl rfl (one_cat rfl) (Nat.le_of_ble_eq_true rfl) ?_
  show Wp mJ1_charAt_3b067 (kR fr 0 0) (rI (fun r h' => h' = h ∧ r = ((zStrB.getD i []).getD x.toNat 0).toInt)) (0, 0) 0 [zR (-(i : Int) - 200), zI x] [] 137 h
  have hN := zStrL_small i hi
  obtain ⟨b1, b2, -⟩ := str_byte i hi x.toNat (by omega)
  refine s_iload_n (x := x) dJ1_charAt_3b067_0 rfl ?_
  refine s_aload_n (x := -(i : Int) - 200) dJ1_charAt_3b067_1 rfl ?_
  refine s_tlen dJ1_charAt_3b067_2 hi ?_
  refine s_callS (as := [zI x, zI ((zStrL.getD i 0 : Nat) : Int)]) (st := []) dJ1_charAt_3b067_3 kJ1_9 rfl rfl (Nat.le_of_ble_eq_true rfl) (j_check2 (fr := fr - 1) (by omega) x0 x1 (by omega)) (show fr - 1 + 1 ≤ fr by omega) (Nat.zero_le _) (Nat.zero_le _) (fun v n' h' hP _ => ?_) (fun E n' h' _ z => (rV_nt _ _ _ z).elim)
  obtain ⟨e, rfl, rfl⟩ := hP
  cases e
  refine s_aload_n (x := -(i : Int) - 200) dJ1_charAt_3b067_6 rfl ?_
  refine s_iload_n (x := x) dJ1_charAt_3b067_7 rfl ?_
  refine s_tbald dJ1_charAt_3b067_8 hi x0 x1 ?_
  refine s_sipush dJ1_charAt_3b067_9 (by decide) ?_
  refine s_iand dJ1_charAt_3b067_12 ?_
  refine s_i2c dJ1_charAt_3b067_13 ?_
  rw [b1]
  exact s_ireturn dJ1_charAt_3b067_14 ⟨.char, rfl, b2⟩ ⟨_, rfl, rfl, rfl, rfl⟩ (fun z => by cases z)
theorem j_charAt {fr i : Nat} {x : Int} {h : AH} (hf : 3 ≤ fr) (hi : i < 10) (x0 : 0 ≤ x) (x1 : x < (zStrL.getD i 0 : Nat)) : Sp mJ0_charAt_5068e true fr 0 0 [zR (-(i : Int) - 1), zI x] 137 h (rI (fun r h' => h' = h ∧ r = ((zStrB.getD i []).getD x.toNat 0).toInt)) := by
  refine Sp.ofF (by decide +kernel) rfl (by decide) rfl rfl (one_cat rfl) (Nat.le_of_ble_eq_true rfl) ?_
  show Wp mJ0_charAt_5068e (kR fr 0 0) (rI (fun r h' => h' = h ∧ r = ((zStrB.getD i []).getD x.toNat 0).toInt)) (0, 0) 0 [zR (-(i : Int) - 1), zI x] [] 137 h
  obtain ⟨b1, b2, -⟩ := str_byte i hi x.toNat (by omega)
  refine s_aload_n (x := -(i : Int) - 1) dJ0_charAt_5068e_0 rfl ?_
  refine s_callVS (as := []) (st := []) dJ0_charAt_5068e_1 kJ0_492 rfl hi rfl rfl rfl (Nat.le_of_ble_eq_true rfl) (j_isLatin1 (fr := fr - 1) hi) (show fr - 1 + 1 ≤ fr by omega) (Nat.zero_le _) (Nat.zero_le _) (fun v n' h' hP _ => ?_) (fun E n' h' _ z => (rI_nt _ _ _ z).elim)
  obtain ⟨y, e, rfl, rfl, rfl⟩ := hP
  cases e
  refine s_if_eq (tgt := 16) dJ0_charAt_5068e_4 (by decide) ⟨by decide, by decide⟩ (fun z => absurd z (by decide)) (fun _ => ?_)
  refine s_aload_n (x := -(i : Int) - 1) dJ0_charAt_5068e_7 rfl ?_
  refine s_getSV dJ0_charAt_5068e_8 hi wd1933 ?_
  refine s_iload_n (x := x) dJ0_charAt_5068e_11 rfl ?_
  refine s_callS (as := [zR (-(i : Int) - 200), zI x]) (st := []) dJ0_charAt_5068e_12 kJ0_495 rfl rfl (Nat.le_of_ble_eq_true rfl) (j_charAt1 (fr := fr - 1) (by omega) hi x0 x1) (show fr - 1 + 1 ≤ fr by omega) (Nat.zero_le _) (Nat.zero_le _) (fun v n' h' hP _ => ?_) (fun E n' h' _ z => (rI_nt _ _ _ z).elim)
  obtain ⟨y, e, rfl, rfl, rfl⟩ := hP
  cases e
  exact s_ireturn dJ0_charAt_5068e_15 ⟨.char, rfl, b2⟩ ⟨_, rfl, rfl, rfl, rfl⟩ (fun z => by cases z)
