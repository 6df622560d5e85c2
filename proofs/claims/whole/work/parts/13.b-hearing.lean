theorem dX4_attend_0 : decode mX4_attend.cd 0 = .ok (.aload_n 0, 1) := by decide +kernel
theorem dX4_attend_1 : decode mX4_attend.cd 1 = .ok (.aload_n 1, 1) := by decide +kernel
theorem dX4_attend_2 : decode mX4_attend.cd 2 = .ok (.putfield 21, 3) := by decide +kernel
theorem dX4_attend_5 : decode mX4_attend.cd 5 = .ok (.aload_n 0, 1) := by decide +kernel
theorem dX4_attend_6 : decode mX4_attend.cd 6 = .ok (.aload_n 2, 1) := by decide +kernel
theorem dX4_attend_7 : decode mX4_attend.cd 7 = .ok (.putfield 25, 3) := by decide +kernel
theorem dX4_attend_10 : decode mX4_attend.cd 10 = .ok (.aload_n 0, 1) := by decide +kernel
theorem dX4_attend_11 : decode mX4_attend.cd 11 = .ok (.aload_n 3, 1) := by decide +kernel
theorem dX4_attend_12 : decode mX4_attend.cd 12 = .ok (.putfield 29, 3) := by decide +kernel
theorem dX4_attend_15 : decode mX4_attend.cd 15 = .ok (.aload_n 0, 1) := by decide +kernel
theorem dX4_attend_16 : decode mX4_attend.cd 16 = .ok (.iload 4, 2) := by decide +kernel
theorem dX4_attend_18 : decode mX4_attend.cd 18 = .ok (.putfield 32, 3) := by decide +kernel
theorem dX4_attend_21 : decode mX4_attend.cd 21 = .ok (.aload_n 0, 1) := by decide +kernel
theorem dX4_attend_22 : decode mX4_attend.cd 22 = .ok (.iconst 0, 1) := by decide +kernel
theorem dX4_attend_23 : decode mX4_attend.cd 23 = .ok (.putfield 36, 3) := by decide +kernel
theorem dX4_attend_26 : decode mX4_attend.cd 26 = .ok (.aload_n 0, 1) := by decide +kernel
theorem dX4_attend_27 : decode mX4_attend.cd 27 = .ok (.iconst 0, 1) := by decide +kernel
theorem dX4_attend_28 : decode mX4_attend.cd 28 = .ok (.putfield 39, 3) := by decide +kernel
theorem dX4_attend_31 : decode mX4_attend.cd 31 = .ok (.return_, 1) := by decide +kernel
theorem bX4_attend_0 {fr M1 M2 b1 b2 : Nat} {Q : RS → Nat → AH → Prop} {h : AH} {l1 l2 l3 l4 : Int}   (hq : Q (.inl none) 137 (up (up (up (up (up (up h 51 3 l1) 51 4 l2) 51 5 l3) 51 6 l4) 51 7 0) 51 8 0)) : Wp mX4_attend (kR fr M1 M2) Q (b1, b2) 0 [zR 51, zR l1, zR l2, zR l3, zI l4] [] 137 h := by
  refine s_aload_n (x := 51) dX4_attend_0 rfl ?_
  refine s_aload_n (x := l1) dX4_attend_1 rfl ?_
  refine s_putR (c := 51) dX4_attend_2 lX4_21 e51 ?_
  refine s_aload_n (x := 51) dX4_attend_5 rfl ?_
  refine s_aload_n (x := l2) dX4_attend_6 rfl ?_
  refine s_putR (c := 51) dX4_attend_7 lX4_25 e51 ?_
  refine s_aload_n (x := 51) dX4_attend_10 rfl ?_
  refine s_aload_n (x := l3) dX4_attend_11 rfl ?_
  refine s_putR (c := 51) dX4_attend_12 lX4_29 e51 ?_
  refine s_aload_n (x := 51) dX4_attend_15 rfl ?_
  refine s_iload (x := l4) dX4_attend_16 rfl ?_
  refine s_put (c := 51) dX4_attend_18 lX4_32 e51 ?_
  refine s_aload_n (x := 51) dX4_attend_21 rfl ?_
  refine s_iconst dX4_attend_22 ?_
  refine s_put (c := 51) dX4_attend_23 lX4_36 e51 ?_
  refine s_aload_n (x := 51) dX4_attend_26 rfl ?_
  refine s_iconst dX4_attend_27 ?_
  refine s_put (c := 51) dX4_attend_28 lX4_39 e51 ?_
  exact s_return dX4_attend_31 rfl hq (fun z => by cases z)
theorem dX4_measure_0 : decode mX4_measure.cd 0 = .ok (.aload_n 0, 1) := by decide +kernel
theorem dX4_measure_1 : decode mX4_measure.cd 1 = .ok (.getfield 39, 3) := by decide +kernel
theorem dX4_measure_4 : decode mX4_measure.cd 4 = .ok (.aload_n 0, 1) := by decide +kernel
theorem dX4_measure_5 : decode mX4_measure.cd 5 = .ok (.getfield 25, 3) := by decide +kernel
theorem dX4_measure_8 : decode mX4_measure.cd 8 = .ok (.getfield 42, 3) := by decide +kernel
theorem dX4_measure_11 : decode mX4_measure.cd 11 = .ok (.if_icmp .ge 32, 3) := by decide +kernel
theorem dX4_measure_14 : decode mX4_measure.cd 14 = .ok (.aload_n 0, 1) := by decide +kernel
theorem dX4_measure_15 : decode mX4_measure.cd 15 = .ok (.getfield 25, 3) := by decide +kernel
theorem dX4_measure_18 : decode mX4_measure.cd 18 = .ok (.getfield 47, 3) := by decide +kernel
theorem dX4_measure_21 : decode mX4_measure.cd 21 = .ok (.aload_n 0, 1) := by decide +kernel
theorem dX4_measure_22 : decode mX4_measure.cd 22 = .ok (.getfield 39, 3) := by decide +kernel
theorem dX4_measure_25 : decode mX4_measure.cd 25 = .ok (.iaload, 1) := by decide +kernel
theorem dX4_measure_26 : decode mX4_measure.cd 26 = .ok (.iload_n 1, 1) := by decide +kernel
theorem dX4_measure_27 : decode mX4_measure.cd 27 = .ok (.if_icmp .gt 16, 3) := by decide +kernel
theorem dX4_measure_30 : decode mX4_measure.cd 30 = .ok (.aload_n 0, 1) := by decide +kernel
theorem dX4_measure_31 : decode mX4_measure.cd 31 = .ok (.dup, 1) := by decide +kernel
theorem dX4_measure_32 : decode mX4_measure.cd 32 = .ok (.getfield 39, 3) := by decide +kernel
theorem dX4_measure_35 : decode mX4_measure.cd 35 = .ok (.iconst 1, 1) := by decide +kernel
theorem dX4_measure_36 : decode mX4_measure.cd 36 = .ok (.iadd, 1) := by decide +kernel
theorem dX4_measure_37 : decode mX4_measure.cd 37 = .ok (.putfield 39, 3) := by decide +kernel
theorem dX4_measure_40 : decode mX4_measure.cd 40 = .ok (.goto (-40), 3) := by decide +kernel
theorem dX4_measure_43 : decode mX4_measure.cd 43 = .ok (.aload_n 0, 1) := by decide +kernel
theorem dX4_measure_44 : decode mX4_measure.cd 44 = .ok (.getfield 36, 3) := by decide +kernel
theorem dX4_measure_47 : decode mX4_measure.cd 47 = .ok (.aload_n 0, 1) := by decide +kernel
theorem dX4_measure_48 : decode mX4_measure.cd 48 = .ok (.getfield 39, 3) := by decide +kernel
theorem dX4_measure_51 : decode mX4_measure.cd 51 = .ok (.if_icmp .ge 37, 3) := by decide +kernel
theorem dX4_measure_54 : decode mX4_measure.cd 54 = .ok (.aload_n 0, 1) := by decide +kernel
theorem dX4_measure_55 : decode mX4_measure.cd 55 = .ok (.getfield 25, 3) := by decide +kernel
theorem dX4_measure_58 : decode mX4_measure.cd 58 = .ok (.getfield 47, 3) := by decide +kernel
theorem dX4_measure_61 : decode mX4_measure.cd 61 = .ok (.aload_n 0, 1) := by decide +kernel
theorem dX4_measure_62 : decode mX4_measure.cd 62 = .ok (.getfield 36, 3) := by decide +kernel
theorem dX4_measure_65 : decode mX4_measure.cd 65 = .ok (.iaload, 1) := by decide +kernel
theorem dX4_measure_66 : decode mX4_measure.cd 66 = .ok (.iload_n 1, 1) := by decide +kernel
theorem dX4_measure_67 : decode mX4_measure.cd 67 = .ok (.aload_n 0, 1) := by decide +kernel
theorem dX4_measure_68 : decode mX4_measure.cd 68 = .ok (.getfield 32, 3) := by decide +kernel
theorem dX4_measure_71 : decode mX4_measure.cd 71 = .ok (.isub, 1) := by decide +kernel
theorem dX4_measure_72 : decode mX4_measure.cd 72 = .ok (.if_icmp .ge 16, 3) := by decide +kernel
theorem dX4_measure_75 : decode mX4_measure.cd 75 = .ok (.aload_n 0, 1) := by decide +kernel
theorem dX4_measure_76 : decode mX4_measure.cd 76 = .ok (.dup, 1) := by decide +kernel
theorem dX4_measure_77 : decode mX4_measure.cd 77 = .ok (.getfield 36, 3) := by decide +kernel
theorem dX4_measure_80 : decode mX4_measure.cd 80 = .ok (.iconst 1, 1) := by decide +kernel
theorem dX4_measure_81 : decode mX4_measure.cd 81 = .ok (.iadd, 1) := by decide +kernel
theorem dX4_measure_82 : decode mX4_measure.cd 82 = .ok (.putfield 36, 3) := by decide +kernel
theorem dX4_measure_85 : decode mX4_measure.cd 85 = .ok (.goto (-42), 3) := by decide +kernel
theorem dX4_measure_88 : decode mX4_measure.cd 88 = .ok (.iconst 0, 1) := by decide +kernel
theorem dX4_measure_89 : decode mX4_measure.cd 89 = .ok (.istore_n 2, 1) := by decide +kernel
theorem dX4_measure_90 : decode mX4_measure.cd 90 = .ok (.aload_n 0, 1) := by decide +kernel
theorem dX4_measure_91 : decode mX4_measure.cd 91 = .ok (.getfield 36, 3) := by decide +kernel
theorem dX4_measure_94 : decode mX4_measure.cd 94 = .ok (.istore_n 3, 1) := by decide +kernel
theorem dX4_measure_95 : decode mX4_measure.cd 95 = .ok (.iload_n 3, 1) := by decide +kernel
theorem dX4_measure_96 : decode mX4_measure.cd 96 = .ok (.aload_n 0, 1) := by decide +kernel
theorem dX4_measure_97 : decode mX4_measure.cd 97 = .ok (.getfield 39, 3) := by decide +kernel
theorem dX4_measure_100 : decode mX4_measure.cd 100 = .ok (.if_icmp .ge 85, 3) := by decide +kernel
theorem dX4_measure_103 : decode mX4_measure.cd 103 = .ok (.aload_n 0, 1) := by decide +kernel
theorem dX4_measure_104 : decode mX4_measure.cd 104 = .ok (.getfield 29, 3) := by decide +kernel
theorem dX4_measure_107 : decode mX4_measure.cd 107 = .ok (.iload_n 1, 1) := by decide +kernel
theorem dX4_measure_108 : decode mX4_measure.cd 108 = .ok (.aload_n 0, 1) := by decide +kernel
theorem dX4_measure_109 : decode mX4_measure.cd 109 = .ok (.getfield 25, 3) := by decide +kernel
theorem dX4_measure_112 : decode mX4_measure.cd 112 = .ok (.getfield 47, 3) := by decide +kernel
theorem dX4_measure_115 : decode mX4_measure.cd 115 = .ok (.iload_n 3, 1) := by decide +kernel
theorem dX4_measure_116 : decode mX4_measure.cd 116 = .ok (.iaload, 1) := by decide +kernel
theorem dX4_measure_117 : decode mX4_measure.cd 117 = .ok (.isub, 1) := by decide +kernel
theorem dX4_measure_118 : decode mX4_measure.cd 118 = .ok (.iaload, 1) := by decide +kernel
theorem dX4_measure_119 : decode mX4_measure.cd 119 = .ok (.istore 4, 2) := by decide +kernel
theorem dX4_measure_121 : decode mX4_measure.cd 121 = .ok (.iload_n 2, 1) := by decide +kernel
theorem dX4_measure_122 : decode mX4_measure.cd 122 = .ok (.iload 4, 2) := by decide +kernel
theorem dX4_measure_124 : decode mX4_measure.cd 124 = .ok (.ior, 1) := by decide +kernel
theorem dX4_measure_125 : decode mX4_measure.cd 125 = .ok (.istore_n 2, 1) := by decide +kernel
theorem dX4_measure_126 : decode mX4_measure.cd 126 = .ok (.iload 4, 2) := by decide +kernel
theorem dX4_measure_128 : decode mX4_measure.cd 128 = .ok (.istore 5, 2) := by decide +kernel
theorem dX4_measure_130 : decode mX4_measure.cd 130 = .ok (.iload 5, 2) := by decide +kernel
theorem dX4_measure_132 : decode mX4_measure.cd 132 = .ok (.ifCond .eq 47, 3) := by decide +kernel
theorem dX4_measure_135 : decode mX4_measure.cd 135 = .ok (.iload 5, 2) := by decide +kernel
theorem dX4_measure_137 : decode mX4_measure.cd 137 = .ok (.invokestatic 50, 3) := by decide +kernel
theorem dX4_measure_140 : decode mX4_measure.cd 140 = .ok (.istore 6, 2) := by decide +kernel
theorem dX4_measure_142 : decode mX4_measure.cd 142 = .ok (.aload_n 0, 1) := by decide +kernel
theorem dX4_measure_143 : decode mX4_measure.cd 143 = .ok (.getfield 18, 3) := by decide +kernel
theorem dX4_measure_146 : decode mX4_measure.cd 146 = .ok (.iload 6, 2) := by decide +kernel
theorem dX4_measure_148 : decode mX4_measure.cd 148 = .ok (.dup2, 1) := by decide +kernel
theorem dX4_measure_149 : decode mX4_measure.cd 149 = .ok (.iaload, 1) := by decide +kernel
theorem dX4_measure_150 : decode mX4_measure.cd 150 = .ok (.aload_n 0, 1) := by decide +kernel
theorem dX4_measure_151 : decode mX4_measure.cd 151 = .ok (.getfield 25, 3) := by decide +kernel
theorem dX4_measure_154 : decode mX4_measure.cd 154 = .ok (.getfield 54, 3) := by decide +kernel
theorem dX4_measure_157 : decode mX4_measure.cd 157 = .ok (.iload_n 3, 1) := by decide +kernel
theorem dX4_measure_158 : decode mX4_measure.cd 158 = .ok (.bipush 8, 2) := by decide +kernel
theorem dX4_measure_160 : decode mX4_measure.cd 160 = .ok (.imul, 1) := by decide +kernel
theorem dX4_measure_161 : decode mX4_measure.cd 161 = .ok (.iload 6, 2) := by decide +kernel
theorem dX4_measure_163 : decode mX4_measure.cd 163 = .ok (.iadd, 1) := by decide +kernel
theorem dX4_measure_164 : decode mX4_measure.cd 164 = .ok (.iaload, 1) := by decide +kernel
theorem dX4_measure_165 : decode mX4_measure.cd 165 = .ok (.iadd, 1) := by decide +kernel
theorem dX4_measure_166 : decode mX4_measure.cd 166 = .ok (.iastore, 1) := by decide +kernel
theorem dX4_measure_167 : decode mX4_measure.cd 167 = .ok (.iload 5, 2) := by decide +kernel
theorem dX4_measure_169 : decode mX4_measure.cd 169 = .ok (.iload 5, 2) := by decide +kernel
theorem dX4_measure_171 : decode mX4_measure.cd 171 = .ok (.iconst 1, 1) := by decide +kernel
theorem dX4_measure_172 : decode mX4_measure.cd 172 = .ok (.isub, 1) := by decide +kernel
theorem dX4_measure_173 : decode mX4_measure.cd 173 = .ok (.iand, 1) := by decide +kernel
theorem dX4_measure_174 : decode mX4_measure.cd 174 = .ok (.istore 5, 2) := by decide +kernel
theorem dX4_measure_176 : decode mX4_measure.cd 176 = .ok (.goto (-46), 3) := by decide +kernel
theorem dX4_measure_179 : decode mX4_measure.cd 179 = .ok (.iinc 3 1, 3) := by decide +kernel
theorem dX4_measure_182 : decode mX4_measure.cd 182 = .ok (.goto (-87), 3) := by decide +kernel
theorem dX4_measure_185 : decode mX4_measure.cd 185 = .ok (.iconst 0, 1) := by decide +kernel
theorem dX4_measure_186 : decode mX4_measure.cd 186 = .ok (.istore_n 3, 1) := by decide +kernel
theorem dX4_measure_187 : decode mX4_measure.cd 187 = .ok (.iconst (-1), 1) := by decide +kernel
theorem dX4_measure_188 : decode mX4_measure.cd 188 = .ok (.istore 4, 2) := by decide +kernel
theorem dX4_measure_190 : decode mX4_measure.cd 190 = .ok (.iload_n 2, 1) := by decide +kernel
theorem dX4_measure_191 : decode mX4_measure.cd 191 = .ok (.istore 5, 2) := by decide +kernel
theorem dX4_measure_193 : decode mX4_measure.cd 193 = .ok (.iload 5, 2) := by decide +kernel
theorem dX4_measure_195 : decode mX4_measure.cd 195 = .ok (.ifCond .eq 53, 3) := by decide +kernel
theorem dX4_measure_198 : decode mX4_measure.cd 198 = .ok (.iload 5, 2) := by decide +kernel
theorem dX4_measure_200 : decode mX4_measure.cd 200 = .ok (.invokestatic 50, 3) := by decide +kernel
theorem dX4_measure_203 : decode mX4_measure.cd 203 = .ok (.istore 6, 2) := by decide +kernel
theorem dX4_measure_205 : decode mX4_measure.cd 205 = .ok (.aload_n 0, 1) := by decide +kernel
theorem dX4_measure_206 : decode mX4_measure.cd 206 = .ok (.getfield 18, 3) := by decide +kernel
theorem dX4_measure_209 : decode mX4_measure.cd 209 = .ok (.iload 6, 2) := by decide +kernel
theorem dX4_measure_211 : decode mX4_measure.cd 211 = .ok (.iaload, 1) := by decide +kernel
theorem dX4_measure_212 : decode mX4_measure.cd 212 = .ok (.iload_n 3, 1) := by decide +kernel
theorem dX4_measure_213 : decode mX4_measure.cd 213 = .ok (.if_icmp .le 15, 3) := by decide +kernel
theorem dX4_measure_216 : decode mX4_measure.cd 216 = .ok (.aload_n 0, 1) := by decide +kernel
theorem dX4_measure_217 : decode mX4_measure.cd 217 = .ok (.getfield 18, 3) := by decide +kernel
theorem dX4_measure_220 : decode mX4_measure.cd 220 = .ok (.iload 6, 2) := by decide +kernel
theorem dX4_measure_222 : decode mX4_measure.cd 222 = .ok (.iaload, 1) := by decide +kernel
theorem dX4_measure_223 : decode mX4_measure.cd 223 = .ok (.istore_n 3, 1) := by decide +kernel
theorem dX4_measure_224 : decode mX4_measure.cd 224 = .ok (.iload 6, 2) := by decide +kernel
theorem dX4_measure_226 : decode mX4_measure.cd 226 = .ok (.istore 4, 2) := by decide +kernel
theorem dX4_measure_228 : decode mX4_measure.cd 228 = .ok (.aload_n 0, 1) := by decide +kernel
theorem dX4_measure_229 : decode mX4_measure.cd 229 = .ok (.getfield 18, 3) := by decide +kernel
theorem dX4_measure_232 : decode mX4_measure.cd 232 = .ok (.iload 6, 2) := by decide +kernel
theorem dX4_measure_234 : decode mX4_measure.cd 234 = .ok (.iconst 0, 1) := by decide +kernel
theorem dX4_measure_235 : decode mX4_measure.cd 235 = .ok (.iastore, 1) := by decide +kernel
theorem dX4_measure_236 : decode mX4_measure.cd 236 = .ok (.iload 5, 2) := by decide +kernel
theorem dX4_measure_238 : decode mX4_measure.cd 238 = .ok (.iload 5, 2) := by decide +kernel
theorem dX4_measure_240 : decode mX4_measure.cd 240 = .ok (.iconst 1, 1) := by decide +kernel
theorem dX4_measure_241 : decode mX4_measure.cd 241 = .ok (.isub, 1) := by decide +kernel
theorem dX4_measure_242 : decode mX4_measure.cd 242 = .ok (.iand, 1) := by decide +kernel
theorem dX4_measure_243 : decode mX4_measure.cd 243 = .ok (.istore 5, 2) := by decide +kernel
theorem dX4_measure_245 : decode mX4_measure.cd 245 = .ok (.goto (-52), 3) := by decide +kernel
theorem dX4_measure_248 : decode mX4_measure.cd 248 = .ok (.aload_n 0, 1) := by decide +kernel
theorem dX4_measure_249 : decode mX4_measure.cd 249 = .ok (.getfield 9, 3) := by decide +kernel
theorem dX4_measure_252 : decode mX4_measure.cd 252 = .ok (.iload_n 1, 1) := by decide +kernel
theorem dX4_measure_253 : decode mX4_measure.cd 253 = .ok (.iload_n 3, 1) := by decide +kernel
theorem dX4_measure_254 : decode mX4_measure.cd 254 = .ok (.iastore, 1) := by decide +kernel
theorem dX4_measure_255 : decode mX4_measure.cd 255 = .ok (.aload_n 0, 1) := by decide +kernel
theorem dX4_measure_256 : decode mX4_measure.cd 256 = .ok (.getfield 15, 3) := by decide +kernel
theorem dX4_measure_259 : decode mX4_measure.cd 259 = .ok (.iload_n 1, 1) := by decide +kernel
theorem dX4_measure_260 : decode mX4_measure.cd 260 = .ok (.iload 4, 2) := by decide +kernel
theorem dX4_measure_262 : decode mX4_measure.cd 262 = .ok (.iastore, 1) := by decide +kernel
theorem dX4_measure_263 : decode mX4_measure.cd 263 = .ok (.return_, 1) := by decide +kernel
theorem bX4_measure_0 {fr M1 M2 b1 b2 : Nat} {Q : RS → Nat → AH → Prop} {h : AH} {l1 : Int} {x2 x3 x4 x5 x6 : AV} (c1 : cel 137 (h 51 4) (7, 9) := by first | assumption | omega) (r1 : -2147483648 ≤ h 51 8 ∧ h 51 8 < 2147483648 := by omega) (r2 : -2147483648 ≤ h (h 51 4) 2 ∧ h (h 51 4) 2 < 2147483648 := by omega) (kt : h (h 51 4) 2 ≤ h 51 8 → Wp mX4_measure (kR fr M1 M2) Q (b1, b2) 43 [zR 51, zI l1, none, none, none, none, none] [] 137 h) (kf : h 51 8 < h (h 51 4) 2 → Wp mX4_measure (kR fr M1 M2) Q (b1, b2) 14 [zR 51, zI l1, none, none, none, none, none] [] 137 h) : Wp mX4_measure (kR fr M1 M2) Q (b1, b2) 0 [zR 51, zI l1, x2, x3, x4, x5, x6] [] 137 h := by
  refine s_fgt (fgt_c (fgt_c (fgt_n _ (fgt_n _ (fgt_n _ (fgt_n _ (fgt_n _ fgt_0))))))) ?_
  refine s_aload_n (x := 51) dX4_measure_0 rfl ?_
  refine s_get (c := 51) dX4_measure_1 lX4_39 e51 (by decide) ?_
  refine s_aload_n (x := 51) dX4_measure_4 rfl ?_
  refine s_getR (c := 51) dX4_measure_5 lX4_25 e51 rfl ?_
  refine s_get (c := h 51 4) dX4_measure_8 lX4_42 c1 (by decide) ?_
  exact s_icmp_ge (tgt := 43) dX4_measure_11 (by decide) r1 r2 kt kf
theorem bX4_measure_14 {fr M1 M2 b1 b2 : Nat} {Q : RS → Nat → AH → Prop} {h : AH} {l1 : Int} {x2 x3 x4 x5 x6 : AV} (c1 : cel 137 (h 51 4) (7, 9) := by first | assumption | omega) (r1 : 0 ≤ h 51 8 ∧ h 51 8 < 19 := by omega) (r2 : -2147483648 ≤ h ((h 51 4) + 1) (h 51 8) ∧ h ((h 51 4) + 1) (h 51 8) < 2147483648 := by omega) (r3 : -2147483648 ≤ l1 ∧ l1 < 2147483648 := by omega) (kt : l1 < h ((h 51 4) + 1) (h 51 8) → Wp mX4_measure (kR fr M1 M2) Q (b1, b2) 43 [zR 51, zI l1, none, none, none, none, none] [] 137 h) (kf : h ((h 51 4) + 1) (h 51 8) ≤ l1 → Wp mX4_measure (kR fr M1 M2) Q (b1, b2) 30 [zR 51, zI l1, none, none, none, none, none] [] 137 h) : Wp mX4_measure (kR fr M1 M2) Q (b1, b2) 14 [zR 51, zI l1, x2, x3, x4, x5, x6] [] 137 h := by
  refine s_fgt (fgt_c (fgt_c (fgt_n _ (fgt_n _ (fgt_n _ (fgt_n _ (fgt_n _ fgt_0))))))) ?_
  refine s_aload_n (x := 51) dX4_measure_14 rfl ?_
  refine s_getR (c := 51) dX4_measure_15 lX4_25 e51 rfl ?_
  refine s_getFd (c := h 51 4) (d := (h 51 4) + 1) dX4_measure_18 lX4_47 c1 (Or.inl rfl) rfl (ne0 (fin_X7_0 c1)) ?_
  refine s_aload_n (x := 51) dX4_measure_21 rfl ?_
  refine s_get (c := 51) dX4_measure_22 lX4_39 e51 (by decide) ?_
  refine s_iald (c := (h 51 4) + 1) (i := h 51 8) dX4_measure_25 (fin_X7_0 c1) r1.1 r1.2 ?_
  refine s_iload_n (x := l1) dX4_measure_26 rfl ?_
  exact s_icmp_gt (tgt := 43) dX4_measure_27 (by decide) r2 r3 kt kf
theorem bX4_measure_30 {fr M1 M2 b1 b2 : Nat} {Q : RS → Nat → AH → Prop} {h : AH} {l1 : Int} {x2 x3 x4 x5 x6 : AV}   (kk : Wp mX4_measure (kR fr M1 M2) Q (b1, b2) 0 [zR 51, zI l1, none, none, none, none, none] [] 137 (up h 51 8 ((h 51 8) + 1))) : Wp mX4_measure (kR fr M1 M2) Q (b1, b2) 30 [zR 51, zI l1, x2, x3, x4, x5, x6] [] 137 h := by
  refine s_fgt (fgt_c (fgt_c (fgt_n _ (fgt_n _ (fgt_n _ (fgt_n _ (fgt_n _ fgt_0))))))) ?_
  refine s_aload_n (x := 51) dX4_measure_30 rfl ?_
  refine s_dup dX4_measure_31 rfl ?_
  refine s_get (c := 51) dX4_measure_32 lX4_39 e51 (by decide) ?_
  refine s_iconst dX4_measure_35 ?_
  refine s_iadd dX4_measure_36 ?_
  refine s_put (c := 51) dX4_measure_37 lX4_39 e51 ?_
  exact s_goto (tgt := 0) dX4_measure_40 (by decide) kk
theorem bX4_measure_43 {fr M1 M2 b1 b2 : Nat} {Q : RS → Nat → AH → Prop} {h : AH} {l1 : Int} {x2 x3 x4 x5 x6 : AV}  (r1 : -2147483648 ≤ h 51 7 ∧ h 51 7 < 2147483648 := by omega) (r2 : -2147483648 ≤ h 51 8 ∧ h 51 8 < 2147483648 := by omega) (kt : h 51 8 ≤ h 51 7 → Wp mX4_measure (kR fr M1 M2) Q (b1, b2) 88 [zR 51, zI l1, none, none, none, none, none] [] 137 h) (kf : h 51 7 < h 51 8 → Wp mX4_measure (kR fr M1 M2) Q (b1, b2) 54 [zR 51, zI l1, none, none, none, none, none] [] 137 h) : Wp mX4_measure (kR fr M1 M2) Q (b1, b2) 43 [zR 51, zI l1, x2, x3, x4, x5, x6] [] 137 h := by
  refine s_fgt (fgt_c (fgt_c (fgt_n _ (fgt_n _ (fgt_n _ (fgt_n _ (fgt_n _ fgt_0))))))) ?_
  refine s_aload_n (x := 51) dX4_measure_43 rfl ?_
  refine s_get (c := 51) dX4_measure_44 lX4_36 e51 (by decide) ?_
  refine s_aload_n (x := 51) dX4_measure_47 rfl ?_
  refine s_get (c := 51) dX4_measure_48 lX4_39 e51 (by decide) ?_
  exact s_icmp_ge (tgt := 88) dX4_measure_51 (by decide) r1 r2 kt kf
theorem bX4_measure_54 {fr M1 M2 b1 b2 : Nat} {Q : RS → Nat → AH → Prop} {h : AH} {l1 : Int} {x2 x3 x4 x5 x6 : AV} (c1 : cel 137 (h 51 4) (7, 9) := by first | assumption | omega) (r1 : 0 ≤ h 51 7 ∧ h 51 7 < 19 := by omega) (r2 : -2147483648 ≤ h ((h 51 4) + 1) (h 51 7) ∧ h ((h 51 4) + 1) (h 51 7) < 2147483648 := by omega) (r3 : -2147483648 ≤ l1 - (h 51 6) ∧ l1 - (h 51 6) < 2147483648 := by omega) (kt : l1 - (h 51 6) ≤ h ((h 51 4) + 1) (h 51 7) → Wp mX4_measure (kR fr M1 M2) Q (b1, b2) 88 [zR 51, zI l1, none, none, none, none, none] [] 137 h) (kf : h ((h 51 4) + 1) (h 51 7) < l1 - (h 51 6) → Wp mX4_measure (kR fr M1 M2) Q (b1, b2) 75 [zR 51, zI l1, none, none, none, none, none] [] 137 h) : Wp mX4_measure (kR fr M1 M2) Q (b1, b2) 54 [zR 51, zI l1, x2, x3, x4, x5, x6] [] 137 h := by
  refine s_fgt (fgt_c (fgt_c (fgt_n _ (fgt_n _ (fgt_n _ (fgt_n _ (fgt_n _ fgt_0))))))) ?_
  refine s_aload_n (x := 51) dX4_measure_54 rfl ?_
  refine s_getR (c := 51) dX4_measure_55 lX4_25 e51 rfl ?_
  refine s_getFd (c := h 51 4) (d := (h 51 4) + 1) dX4_measure_58 lX4_47 c1 (Or.inl rfl) rfl (ne0 (fin_X7_0 c1)) ?_
  refine s_aload_n (x := 51) dX4_measure_61 rfl ?_
  refine s_get (c := 51) dX4_measure_62 lX4_36 e51 (by decide) ?_
  refine s_iald (c := (h 51 4) + 1) (i := h 51 7) dX4_measure_65 (fin_X7_0 c1) r1.1 r1.2 ?_
  refine s_iload_n (x := l1) dX4_measure_66 rfl ?_
  refine s_aload_n (x := 51) dX4_measure_67 rfl ?_
  refine s_get (c := 51) dX4_measure_68 lX4_32 e51 (by decide) ?_
  refine s_isub dX4_measure_71 ?_
  exact s_icmp_ge (tgt := 88) dX4_measure_72 (by decide) r2 r3 kt kf
theorem bX4_measure_75 {fr M1 M2 b1 b2 : Nat} {Q : RS → Nat → AH → Prop} {h : AH} {l1 : Int} {x2 x3 x4 x5 x6 : AV}   (kk : Wp mX4_measure (kR fr M1 M2) Q (b1, b2) 43 [zR 51, zI l1, none, none, none, none, none] [] 137 (up h 51 7 ((h 51 7) + 1))) : Wp mX4_measure (kR fr M1 M2) Q (b1, b2) 75 [zR 51, zI l1, x2, x3, x4, x5, x6] [] 137 h := by
  refine s_fgt (fgt_c (fgt_c (fgt_n _ (fgt_n _ (fgt_n _ (fgt_n _ (fgt_n _ fgt_0))))))) ?_
  refine s_aload_n (x := 51) dX4_measure_75 rfl ?_
  refine s_dup dX4_measure_76 rfl ?_
  refine s_get (c := 51) dX4_measure_77 lX4_36 e51 (by decide) ?_
  refine s_iconst dX4_measure_80 ?_
  refine s_iadd dX4_measure_81 ?_
  refine s_put (c := 51) dX4_measure_82 lX4_36 e51 ?_
  exact s_goto (tgt := 43) dX4_measure_85 (by decide) kk
theorem bX4_measure_88 {fr M1 M2 b1 b2 : Nat} {Q : RS → Nat → AH → Prop} {h : AH} {l1 : Int} {x2 x3 x4 x5 x6 : AV}   (kk : Wp mX4_measure (kR fr M1 M2) Q (b1, b2) 95 [zR 51, zI l1, zI 0, zI (h 51 7), none, none, none] [] 137 h) : Wp mX4_measure (kR fr M1 M2) Q (b1, b2) 88 [zR 51, zI l1, x2, x3, x4, x5, x6] [] 137 h := by
  refine s_fgt (fgt_c (fgt_c (fgt_n _ (fgt_n _ (fgt_n _ (fgt_n _ (fgt_n _ fgt_0))))))) ?_
  refine s_iconst dX4_measure_88 ?_
  refine s_istore_n dX4_measure_89 rfl (by decide) ?_
  refine s_aload_n (x := 51) dX4_measure_90 rfl ?_
  refine s_get (c := 51) dX4_measure_91 lX4_36 e51 (by decide) ?_
  refine s_istore_n dX4_measure_94 rfl (by decide) ?_
  exact kk
theorem bX4_measure_95 {fr M1 M2 b1 b2 : Nat} {Q : RS → Nat → AH → Prop} {h : AH} {l1 l2 l3 : Int} {x4 x5 x6 : AV}  (r1 : -2147483648 ≤ l3 ∧ l3 < 2147483648 := by omega) (r2 : -2147483648 ≤ h 51 8 ∧ h 51 8 < 2147483648 := by omega) (kt : h 51 8 ≤ l3 → Wp mX4_measure (kR fr M1 M2) Q (b1, b2) 185 [zR 51, zI l1, zI l2, zI l3, none, none, none] [] 137 h) (kf : l3 < h 51 8 → Wp mX4_measure (kR fr M1 M2) Q (b1, b2) 103 [zR 51, zI l1, zI l2, zI l3, none, none, none] [] 137 h) : Wp mX4_measure (kR fr M1 M2) Q (b1, b2) 95 [zR 51, zI l1, zI l2, zI l3, x4, x5, x6] [] 137 h := by
  refine s_fgt (fgt_c (fgt_c (fgt_c (fgt_c (fgt_n _ (fgt_n _ (fgt_n _ fgt_0))))))) ?_
  refine s_iload_n (x := l3) dX4_measure_95 rfl ?_
  refine s_aload_n (x := 51) dX4_measure_96 rfl ?_
  refine s_get (c := 51) dX4_measure_97 lX4_39 e51 (by decide) ?_
  exact s_icmp_ge (tgt := 185) dX4_measure_100 (by decide) r1 r2 kt kf
theorem bX4_measure_103 {fr M1 M2 b1 b2 : Nat} {Q : RS → Nat → AH → Prop} {h : AH} {l1 l2 l3 : Int} {N2 : Nat} {x4 x5 x6 : AV} (c1 : cel 137 (h 51 4) (7, 9) := by first | assumption | omega) (c2 : cel 137 (h 51 5) (100, N2) := by first | assumption | omega) (r1 : 0 ≤ l3 ∧ l3 < 19 := by omega) (r2 : 0 ≤ l1 - (h ((h 51 4) + 1) l3) ∧ l1 - (h ((h 51 4) + 1) l3) < N2 := by omega) (kk : Wp mX4_measure (kR fr M1 M2) Q (b1, b2) 130 [zR 51, zI l1, zI (bOr l2 (h (h 51 5) (l1 - (h ((h 51 4) + 1) l3)))), zI l3, zI (h (h 51 5) (l1 - (h ((h 51 4) + 1) l3))), zI (h (h 51 5) (l1 - (h ((h 51 4) + 1) l3))), none] [] 137 h) : Wp mX4_measure (kR fr M1 M2) Q (b1, b2) 103 [zR 51, zI l1, zI l2, zI l3, x4, x5, x6] [] 137 h := by
  refine s_fgt (fgt_c (fgt_c (fgt_c (fgt_c (fgt_n _ (fgt_n _ (fgt_n _ fgt_0))))))) ?_
  refine s_aload_n (x := 51) dX4_measure_103 rfl ?_
  refine s_getR (c := 51) dX4_measure_104 lX4_29 e51 rfl ?_
  refine s_iload_n (x := l1) dX4_measure_107 rfl ?_
  refine s_aload_n (x := 51) dX4_measure_108 rfl ?_
  refine s_getR (c := 51) dX4_measure_109 lX4_25 e51 rfl ?_
  refine s_getFd (c := h 51 4) (d := (h 51 4) + 1) dX4_measure_112 lX4_47 c1 (Or.inl rfl) rfl (ne0 (fin_X7_0 c1)) ?_
  refine s_iload_n (x := l3) dX4_measure_115 rfl ?_
  refine s_iald (c := (h 51 4) + 1) (i := l3) dX4_measure_116 (fin_X7_0 c1) r1.1 r1.2 ?_
  refine s_isub dX4_measure_117 ?_
  refine s_iald (c := h 51 5) (i := l1 - (h ((h 51 4) + 1) l3)) dX4_measure_118 c2 r2.1 r2.2 ?_
  refine s_istore dX4_measure_119 rfl (by decide) ?_
  refine s_iload_n (x := l2) dX4_measure_121 rfl ?_
  refine s_iload (x := h (h 51 5) (l1 - (h ((h 51 4) + 1) l3))) dX4_measure_122 rfl ?_
  refine s_ior dX4_measure_124 ?_
  refine s_istore_n dX4_measure_125 rfl (by decide) ?_
  refine s_iload (x := h (h 51 5) (l1 - (h ((h 51 4) + 1) l3))) dX4_measure_126 rfl ?_
  refine s_istore dX4_measure_128 rfl (by decide) ?_
  exact kk
theorem bX4_measure_130 {fr M1 M2 b1 b2 : Nat} {Q : RS → Nat → AH → Prop} {h : AH} {l1 l2 l3 l5 : Int} {x4 x6 : AV}  (r1 : -2147483648 ≤ l5 ∧ l5 < 2147483648 := by omega) (kt : l5 = 0 → Wp mX4_measure (kR fr M1 M2) Q (b1, b2) 179 [zR 51, zI l1, zI l2, zI l3, none, zI l5, none] [] 137 h) (kf : ¬ l5 = 0 → Wp mX4_measure (kR fr M1 M2) Q (b1, b2) 135 [zR 51, zI l1, zI l2, zI l3, none, zI l5, none] [] 137 h) : Wp mX4_measure (kR fr M1 M2) Q (b1, b2) 130 [zR 51, zI l1, zI l2, zI l3, x4, zI l5, x6] [] 137 h := by
  refine s_fgt (fgt_c (fgt_c (fgt_c (fgt_c (fgt_n _ (fgt_c (fgt_n _ fgt_0))))))) ?_
  refine s_iload (x := l5) dX4_measure_130 rfl ?_
  exact s_if_eq (tgt := 179) dX4_measure_132 (by decide) r1 kt kf
theorem bX4_measure_135 {fr M1 M2 b1 b2 : Nat} {Q : RS → Nat → AH → Prop} {h : AH} {l1 l2 l3 l5 : Int} {x4 x6 : AV} {R : Int → AH → Prop}   (hS : Sp mX11_lowestBit true (fr - 1) 0 0 [zI l5] 137 h (rI R)) (hf : 1 ≤ fr := by omega) (kk : ∀ (x : Int) (h' : AH), R x h' → Wp mX4_measure (kR fr M1 M2) Q (b1, b2) 140 [zR 51, zI l1, zI l2, zI l3, none, zI l5, none] [zI x] 137 h') : Wp mX4_measure (kR fr M1 M2) Q (b1, b2) 135 [zR 51, zI l1, zI l2, zI l3, x4, zI l5, x6] [] 137 h := by
  refine s_fgt (fgt_c (fgt_c (fgt_c (fgt_c (fgt_n _ (fgt_c (fgt_n _ fgt_0))))))) ?_
  refine s_iload (x := l5) dX4_measure_135 rfl ?_
  exact s_callSN (host := "EchoGorge") (as := [zI l5]) (st := []) dX4_measure_137 (by decide +kernel) kX4_50.1 kX4_50.2 rfl rfl rfl (Nat.le_of_ble_eq_true rfl) hS rI_nt (show fr - 1 + 1 ≤ fr by omega) (Nat.zero_le _) (Nat.zero_le _) (fun v n' h' hP _ => by obtain ⟨x, e, rfl, hR⟩ := hP; cases e; exact kk x h' hR)
theorem bX4_measure_140 {fr M1 M2 b1 b2 : Nat} {Q : RS → Nat → AH → Prop} {h : AH} {l1 l2 l3 l5 s0 : Int} {x4 x6 : AV} (c1 : cel 137 (h 51 4) (7, 9) := by first | assumption | omega) (r1 : 0 ≤ s0 ∧ s0 < 8 := by omega) (r2 : 0 ≤ (l3 * 8) + s0 ∧ (l3 * 8) + s0 < 152 := by omega) (kk : Wp mX4_measure (kR fr M1 M2) Q (b1, b2) 130 [zR 51, zI l1, zI l2, zI l3, none, zI (bAnd l5 (l5 - 1)), zI s0] [] 137 (up h 54 s0 ((h 54 s0) + (h ((h 51 4) + 2) ((l3 * 8) + s0))))) : Wp mX4_measure (kR fr M1 M2) Q (b1, b2) 140 [zR 51, zI l1, zI l2, zI l3, x4, zI l5, x6] [zI s0] 137 h := by
  refine s_fgt (fgt_c (fgt_c (fgt_c (fgt_c (fgt_n _ (fgt_c (fgt_n _ fgt_0))))))) ?_
  refine s_istore dX4_measure_140 rfl (by decide) ?_
  refine s_aload_n (x := 51) dX4_measure_142 rfl ?_
  refine s_getFd (c := 51) (d := 54) dX4_measure_143 lX4_18 e51 (Or.inl rfl) (by decide) (by decide) ?_
  refine s_iload (x := s0) dX4_measure_146 rfl ?_
  refine s_dup2 dX4_measure_148 rfl rfl ?_
  refine s_iald (c := 54) (i := s0) dX4_measure_149 e54 r1.1 r1.2 ?_
  refine s_aload_n (x := 51) dX4_measure_150 rfl ?_
  refine s_getR (c := 51) dX4_measure_151 lX4_25 e51 rfl ?_
  refine s_getFd (c := h 51 4) (d := (h 51 4) + 2) dX4_measure_154 lX4_54 c1 (Or.inl rfl) rfl (ne0 (fin_X7_1 c1)) ?_
  refine s_iload_n (x := l3) dX4_measure_157 rfl ?_
  refine s_bipush dX4_measure_158 (by decide) ?_
  refine s_imul dX4_measure_160 ?_
  refine s_iload (x := s0) dX4_measure_161 rfl ?_
  refine s_iadd dX4_measure_163 ?_
  refine s_iald (c := (h 51 4) + 2) (i := (l3 * 8) + s0) dX4_measure_164 (fin_X7_1 c1) r2.1 r2.2 ?_
  refine s_iadd dX4_measure_165 ?_
  refine s_iast (c := 54) (i := s0) dX4_measure_166 e54 r1.1 r1.2 ?_
  refine s_iload (x := l5) dX4_measure_167 rfl ?_
  refine s_iload (x := l5) dX4_measure_169 rfl ?_
  refine s_iconst dX4_measure_171 ?_
  refine s_isub dX4_measure_172 ?_
  refine s_iand dX4_measure_173 ?_
  refine s_istore dX4_measure_174 rfl (by decide) ?_
  exact s_goto (tgt := 130) dX4_measure_176 (by decide) kk
theorem bX4_measure_179 {fr M1 M2 b1 b2 : Nat} {Q : RS → Nat → AH → Prop} {h : AH} {l1 l2 l3 : Int} {x4 x5 x6 : AV}   (kk : Wp mX4_measure (kR fr M1 M2) Q (b1, b2) 95 [zR 51, zI l1, zI l2, zI (l3 + 1), none, none, none] [] 137 h) : Wp mX4_measure (kR fr M1 M2) Q (b1, b2) 179 [zR 51, zI l1, zI l2, zI l3, x4, x5, x6] [] 137 h := by
  refine s_fgt (fgt_c (fgt_c (fgt_c (fgt_c (fgt_n _ (fgt_n _ (fgt_n _ fgt_0))))))) ?_
  refine s_iinc (x := l3) dX4_measure_179 rfl rfl (by decide) ?_
  exact s_goto (tgt := 95) dX4_measure_182 (by decide) kk
theorem bX4_measure_185 {fr M1 M2 b1 b2 : Nat} {Q : RS → Nat → AH → Prop} {h : AH} {l1 l2 : Int} {x3 x4 x5 x6 : AV}   (kk : Wp mX4_measure (kR fr M1 M2) Q (b1, b2) 193 [zR 51, zI l1, zI l2, zI 0, zI (-1), zI l2, none] [] 137 h) : Wp mX4_measure (kR fr M1 M2) Q (b1, b2) 185 [zR 51, zI l1, zI l2, x3, x4, x5, x6] [] 137 h := by
  refine s_fgt (fgt_c (fgt_c (fgt_c (fgt_n _ (fgt_n _ (fgt_n _ (fgt_n _ fgt_0))))))) ?_
  refine s_iconst dX4_measure_185 ?_
  refine s_istore_n dX4_measure_186 rfl (by decide) ?_
  refine s_iconst dX4_measure_187 ?_
  refine s_istore dX4_measure_188 rfl (by decide) ?_
  refine s_iload_n (x := l2) dX4_measure_190 rfl ?_
  refine s_istore dX4_measure_191 rfl (by decide) ?_
  exact kk
theorem bX4_measure_193 {fr M1 M2 b1 b2 : Nat} {Q : RS → Nat → AH → Prop} {h : AH} {l1 l3 l4 l5 : Int} {x2 x6 : AV}  (r1 : -2147483648 ≤ l5 ∧ l5 < 2147483648 := by omega) (kt : l5 = 0 → Wp mX4_measure (kR fr M1 M2) Q (b1, b2) 248 [zR 51, zI l1, none, zI l3, zI l4, zI l5, none] [] 137 h) (kf : ¬ l5 = 0 → Wp mX4_measure (kR fr M1 M2) Q (b1, b2) 198 [zR 51, zI l1, none, zI l3, zI l4, zI l5, none] [] 137 h) : Wp mX4_measure (kR fr M1 M2) Q (b1, b2) 193 [zR 51, zI l1, x2, zI l3, zI l4, zI l5, x6] [] 137 h := by
  refine s_fgt (fgt_c (fgt_c (fgt_n _ (fgt_c (fgt_c (fgt_c (fgt_n _ fgt_0))))))) ?_
  refine s_iload (x := l5) dX4_measure_193 rfl ?_
  exact s_if_eq (tgt := 248) dX4_measure_195 (by decide) r1 kt kf
theorem bX4_measure_198 {fr M1 M2 b1 b2 : Nat} {Q : RS → Nat → AH → Prop} {h : AH} {l1 l3 l4 l5 : Int} {x2 x6 : AV} {R : Int → AH → Prop}   (hS : Sp mX11_lowestBit true (fr - 1) 0 0 [zI l5] 137 h (rI R)) (hf : 1 ≤ fr := by omega) (kk : ∀ (x : Int) (h' : AH), R x h' → Wp mX4_measure (kR fr M1 M2) Q (b1, b2) 203 [zR 51, zI l1, none, zI l3, zI l4, zI l5, none] [zI x] 137 h') : Wp mX4_measure (kR fr M1 M2) Q (b1, b2) 198 [zR 51, zI l1, x2, zI l3, zI l4, zI l5, x6] [] 137 h := by
  refine s_fgt (fgt_c (fgt_c (fgt_n _ (fgt_c (fgt_c (fgt_c (fgt_n _ fgt_0))))))) ?_
  refine s_iload (x := l5) dX4_measure_198 rfl ?_
  exact s_callSN (host := "EchoGorge") (as := [zI l5]) (st := []) dX4_measure_200 (by decide +kernel) kX4_50.1 kX4_50.2 rfl rfl rfl (Nat.le_of_ble_eq_true rfl) hS rI_nt (show fr - 1 + 1 ≤ fr by omega) (Nat.zero_le _) (Nat.zero_le _) (fun v n' h' hP _ => by obtain ⟨x, e, rfl, hR⟩ := hP; cases e; exact kk x h' hR)
theorem bX4_measure_203 {fr M1 M2 b1 b2 : Nat} {Q : RS → Nat → AH → Prop} {h : AH} {l1 l3 l4 l5 s0 : Int} {x2 x6 : AV}  (r1 : 0 ≤ s0 ∧ s0 < 8 := by omega) (r2 : -2147483648 ≤ h 54 s0 ∧ h 54 s0 < 2147483648 := by omega) (r3 : -2147483648 ≤ l3 ∧ l3 < 2147483648 := by omega) (kt : h 54 s0 ≤ l3 → Wp mX4_measure (kR fr M1 M2) Q (b1, b2) 228 [zR 51, zI l1, none, zI l3, zI l4, zI l5, zI s0] [] 137 h) (kf : l3 < h 54 s0 → Wp mX4_measure (kR fr M1 M2) Q (b1, b2) 216 [zR 51, zI l1, none, zI l3, zI l4, zI l5, zI s0] [] 137 h) : Wp mX4_measure (kR fr M1 M2) Q (b1, b2) 203 [zR 51, zI l1, x2, zI l3, zI l4, zI l5, x6] [zI s0] 137 h := by
  refine s_fgt (fgt_c (fgt_c (fgt_n _ (fgt_c (fgt_c (fgt_c (fgt_n _ fgt_0))))))) ?_
  refine s_istore dX4_measure_203 rfl (by decide) ?_
  refine s_aload_n (x := 51) dX4_measure_205 rfl ?_
  refine s_getFd (c := 51) (d := 54) dX4_measure_206 lX4_18 e51 (Or.inl rfl) (by decide) (by decide) ?_
  refine s_iload (x := s0) dX4_measure_209 rfl ?_
  refine s_iald (c := 54) (i := s0) dX4_measure_211 e54 r1.1 r1.2 ?_
  refine s_iload_n (x := l3) dX4_measure_212 rfl ?_
  exact s_icmp_le (tgt := 228) dX4_measure_213 (by decide) r2 r3 kt kf
theorem bX4_measure_216 {fr M1 M2 b1 b2 : Nat} {Q : RS → Nat → AH → Prop} {h : AH} {l1 l5 l6 : Int} {x2 x3 x4 : AV}  (r1 : 0 ≤ l6 ∧ l6 < 8 := by omega) (kk : Wp mX4_measure (kR fr M1 M2) Q (b1, b2) 228 [zR 51, zI l1, none, zI (h 54 l6), zI l6, zI l5, zI l6] [] 137 h) : Wp mX4_measure (kR fr M1 M2) Q (b1, b2) 216 [zR 51, zI l1, x2, x3, x4, zI l5, zI l6] [] 137 h := by
  refine s_fgt (fgt_c (fgt_c (fgt_n _ (fgt_n _ (fgt_n _ (fgt_c (fgt_c fgt_0))))))) ?_
  refine s_aload_n (x := 51) dX4_measure_216 rfl ?_
  refine s_getFd (c := 51) (d := 54) dX4_measure_217 lX4_18 e51 (Or.inl rfl) (by decide) (by decide) ?_
  refine s_iload (x := l6) dX4_measure_220 rfl ?_
  refine s_iald (c := 54) (i := l6) dX4_measure_222 e54 r1.1 r1.2 ?_
  refine s_istore_n dX4_measure_223 rfl (by decide) ?_
  refine s_iload (x := l6) dX4_measure_224 rfl ?_
  refine s_istore dX4_measure_226 rfl (by decide) ?_
  exact kk
theorem bX4_measure_228 {fr M1 M2 b1 b2 : Nat} {Q : RS → Nat → AH → Prop} {h : AH} {l1 l3 l4 l5 l6 : Int} {x2 : AV}  (r1 : 0 ≤ l6 ∧ l6 < 8 := by omega) (kk : Wp mX4_measure (kR fr M1 M2) Q (b1, b2) 193 [zR 51, zI l1, none, zI l3, zI l4, zI (bAnd l5 (l5 - 1)), zI l6] [] 137 (up h 54 l6 0)) : Wp mX4_measure (kR fr M1 M2) Q (b1, b2) 228 [zR 51, zI l1, x2, zI l3, zI l4, zI l5, zI l6] [] 137 h := by
  refine s_fgt (fgt_c (fgt_c (fgt_n _ (fgt_c (fgt_c (fgt_c (fgt_c fgt_0))))))) ?_
  refine s_aload_n (x := 51) dX4_measure_228 rfl ?_
  refine s_getFd (c := 51) (d := 54) dX4_measure_229 lX4_18 e51 (Or.inl rfl) (by decide) (by decide) ?_
  refine s_iload (x := l6) dX4_measure_232 rfl ?_
  refine s_iconst dX4_measure_234 ?_
  refine s_iast (c := 54) (i := l6) dX4_measure_235 e54 r1.1 r1.2 ?_
  refine s_iload (x := l5) dX4_measure_236 rfl ?_
  refine s_iload (x := l5) dX4_measure_238 rfl ?_
  refine s_iconst dX4_measure_240 ?_
  refine s_isub dX4_measure_241 ?_
  refine s_iand dX4_measure_242 ?_
  refine s_istore dX4_measure_243 rfl (by decide) ?_
  exact s_goto (tgt := 193) dX4_measure_245 (by decide) kk
theorem bX4_measure_248 {fr M1 M2 b1 b2 : Nat} {Q : RS → Nat → AH → Prop} {h : AH} {l1 l3 l4 : Int} {x2 x5 x6 : AV}  (r1 : 0 ≤ l1 ∧ l1 < 400 := by omega) (hq : Q (.inl none) 137 (up (up h 52 l1 l3) 53 l1 l4)) : Wp mX4_measure (kR fr M1 M2) Q (b1, b2) 248 [zR 51, zI l1, x2, zI l3, zI l4, x5, x6] [] 137 h := by
  refine s_fgt (fgt_c (fgt_c (fgt_n _ (fgt_c (fgt_c (fgt_n _ (fgt_n _ fgt_0))))))) ?_
  refine s_aload_n (x := 51) dX4_measure_248 rfl ?_
  refine s_getFd (c := 51) (d := 52) dX4_measure_249 lX4_9 e51 (Or.inl rfl) (by decide) (by decide) ?_
  refine s_iload_n (x := l1) dX4_measure_252 rfl ?_
  refine s_iload_n (x := l3) dX4_measure_253 rfl ?_
  refine s_iast (c := 52) (i := l1) dX4_measure_254 e52 r1.1 r1.2 ?_
  refine s_aload_n (x := 51) dX4_measure_255 rfl ?_
  refine s_getFd (c := 51) (d := 53) dX4_measure_256 lX4_15 e51 (Or.inl rfl) (by decide) (by decide) ?_
  refine s_iload_n (x := l1) dX4_measure_259 rfl ?_
  refine s_iload (x := l4) dX4_measure_260 rfl ?_
  refine s_iast (c := 53) (i := l1) dX4_measure_262 e53 r1.1 r1.2 ?_
  exact s_return dX4_measure_263 rfl hq (fun z => by cases z)
theorem dX4_hears_0 : decode mX4_hears.cd 0 = .ok (.aload_n 0, 1) := by decide +kernel
theorem dX4_hears_1 : decode mX4_hears.cd 1 = .ok (.getfield 9, 3) := by decide +kernel
theorem dX4_hears_4 : decode mX4_hears.cd 4 = .ok (.iload_n 1, 1) := by decide +kernel
theorem dX4_hears_5 : decode mX4_hears.cd 5 = .ok (.iaload, 1) := by decide +kernel
theorem dX4_hears_6 : decode mX4_hears.cd 6 = .ok (.istore_n 2, 1) := by decide +kernel
theorem dX4_hears_7 : decode mX4_hears.cd 7 = .ok (.iload_n 2, 1) := by decide +kernel
theorem dX4_hears_8 : decode mX4_hears.cd 8 = .ok (.aload_n 0, 1) := by decide +kernel
theorem dX4_hears_9 : decode mX4_hears.cd 9 = .ok (.getfield 21, 3) := by decide +kernel
theorem dX4_hears_12 : decode mX4_hears.cd 12 = .ok (.getfield 57, 3) := by decide +kernel
theorem dX4_hears_15 : decode mX4_hears.cd 15 = .ok (.if_icmp .ge 5, 3) := by decide +kernel
theorem dX4_hears_18 : decode mX4_hears.cd 18 = .ok (.iconst (-1), 1) := by decide +kernel
theorem dX4_hears_19 : decode mX4_hears.cd 19 = .ok (.ireturn, 1) := by decide +kernel
theorem dX4_hears_20 : decode mX4_hears.cd 20 = .ok (.iconst 0, 1) := by decide +kernel
theorem dX4_hears_21 : decode mX4_hears.cd 21 = .ok (.iload_n 1, 1) := by decide +kernel
theorem dX4_hears_22 : decode mX4_hears.cd 22 = .ok (.aload_n 0, 1) := by decide +kernel
theorem dX4_hears_23 : decode mX4_hears.cd 23 = .ok (.getfield 21, 3) := by decide +kernel
theorem dX4_hears_26 : decode mX4_hears.cd 26 = .ok (.getfield 62, 3) := by decide +kernel
theorem dX4_hears_29 : decode mX4_hears.cd 29 = .ok (.isub, 1) := by decide +kernel
theorem dX4_hears_30 : decode mX4_hears.cd 30 = .ok (.invokestatic 65, 3) := by decide +kernel
theorem dX4_hears_33 : decode mX4_hears.cd 33 = .ok (.istore_n 3, 1) := by decide +kernel
theorem dX4_hears_34 : decode mX4_hears.cd 34 = .ok (.iload_n 3, 1) := by decide +kernel
theorem dX4_hears_35 : decode mX4_hears.cd 35 = .ok (.istore 4, 2) := by decide +kernel
theorem dX4_hears_37 : decode mX4_hears.cd 37 = .ok (.iload 4, 2) := by decide +kernel
theorem dX4_hears_39 : decode mX4_hears.cd 39 = .ok (.iload_n 1, 1) := by decide +kernel
theorem dX4_hears_40 : decode mX4_hears.cd 40 = .ok (.if_icmp .ge 30, 3) := by decide +kernel
theorem dX4_hears_43 : decode mX4_hears.cd 43 = .ok (.aload_n 0, 1) := by decide +kernel
theorem dX4_hears_44 : decode mX4_hears.cd 44 = .ok (.getfield 9, 3) := by decide +kernel
theorem dX4_hears_47 : decode mX4_hears.cd 47 = .ok (.iload 4, 2) := by decide +kernel
theorem dX4_hears_49 : decode mX4_hears.cd 49 = .ok (.iaload, 1) := by decide +kernel
theorem dX4_hears_50 : decode mX4_hears.cd 50 = .ok (.iload_n 2, 1) := by decide +kernel
theorem dX4_hears_51 : decode mX4_hears.cd 51 = .ok (.aload_n 0, 1) := by decide +kernel
theorem dX4_hears_52 : decode mX4_hears.cd 52 = .ok (.getfield 21, 3) := by decide +kernel
theorem dX4_hears_55 : decode mX4_hears.cd 55 = .ok (.getfield 71, 3) := by decide +kernel
theorem dX4_hears_58 : decode mX4_hears.cd 58 = .ok (.iadd, 1) := by decide +kernel
theorem dX4_hears_59 : decode mX4_hears.cd 59 = .ok (.if_icmp .le 5, 3) := by decide +kernel
theorem dX4_hears_62 : decode mX4_hears.cd 62 = .ok (.iconst (-1), 1) := by decide +kernel
theorem dX4_hears_63 : decode mX4_hears.cd 63 = .ok (.ireturn, 1) := by decide +kernel
theorem dX4_hears_64 : decode mX4_hears.cd 64 = .ok (.iinc 4 1, 3) := by decide +kernel
theorem dX4_hears_67 : decode mX4_hears.cd 67 = .ok (.goto (-30), 3) := by decide +kernel
theorem dX4_hears_70 : decode mX4_hears.cd 70 = .ok (.aload_n 0, 1) := by decide +kernel
theorem dX4_hears_71 : decode mX4_hears.cd 71 = .ok (.getfield 15, 3) := by decide +kernel
theorem dX4_hears_74 : decode mX4_hears.cd 74 = .ok (.iload_n 1, 1) := by decide +kernel
theorem dX4_hears_75 : decode mX4_hears.cd 75 = .ok (.iaload, 1) := by decide +kernel
theorem dX4_hears_76 : decode mX4_hears.cd 76 = .ok (.ireturn, 1) := by decide +kernel
theorem bX4_hears_0 {fr M1 M2 b1 b2 : Nat} {Q : RS → Nat → AH → Prop} {h : AH} {l1 : Int} {x2 x3 x4 : AV} (c1 : cel 137 (h 51 3) (2, 21) := by first | assumption | omega) (r1 : 0 ≤ l1 ∧ l1 < 400 := by omega) (r2 : -2147483648 ≤ h 52 l1 ∧ h 52 l1 < 2147483648 := by omega) (r3 : -2147483648 ≤ h (h 51 3) 4 ∧ h (h 51 3) 4 < 2147483648 := by omega) (kt : h (h 51 3) 4 ≤ h 52 l1 → Wp mX4_hears (kR fr M1 M2) Q (b1, b2) 20 [zR 51, zI l1, zI (h 52 l1), none, none] [] 137 h) (kf : h 52 l1 < h (h 51 3) 4 → Wp mX4_hears (kR fr M1 M2) Q (b1, b2) 18 [zR 51, zI l1, zI (h 52 l1), none, none] [] 137 h) : Wp mX4_hears (kR fr M1 M2) Q (b1, b2) 0 [zR 51, zI l1, x2, x3, x4] [] 137 h := by
  refine s_fgt (fgt_c (fgt_c (fgt_n _ (fgt_n _ (fgt_n _ fgt_0))))) ?_
  refine s_aload_n (x := 51) dX4_hears_0 rfl ?_
  refine s_getFd (c := 51) (d := 52) dX4_hears_1 lX4_9 e51 (Or.inl rfl) (by decide) (by decide) ?_
  refine s_iload_n (x := l1) dX4_hears_4 rfl ?_
  refine s_iald (c := 52) (i := l1) dX4_hears_5 e52 r1.1 r1.2 ?_
  refine s_istore_n dX4_hears_6 rfl (by decide) ?_
  refine s_iload_n (x := h 52 l1) dX4_hears_7 rfl ?_
  refine s_aload_n (x := 51) dX4_hears_8 rfl ?_
  refine s_getR (c := 51) dX4_hears_9 lX4_21 e51 rfl ?_
  refine s_get (c := h 51 3) dX4_hears_12 lX4_57 c1 (by decide) ?_
  exact s_icmp_ge (tgt := 20) dX4_hears_15 (by decide) r2 r3 kt kf
theorem bX4_hears_18 {fr M1 M2 b1 b2 : Nat} {Q : RS → Nat → AH → Prop} {h : AH} {x0 x1 x2 x3 x4 : AV}   (hq : Q (.inl (some (zI (-1)))) 137 h) : Wp mX4_hears (kR fr M1 M2) Q (b1, b2) 18 [x0, x1, x2, x3, x4] [] 137 h := by
  refine s_fgt (fgt_n _ (fgt_n _ (fgt_n _ (fgt_n _ (fgt_n _ fgt_0))))) ?_
  refine s_iconst dX4_hears_18 ?_
  exact s_ireturn dX4_hears_19 ⟨.int, rfl, rfl⟩ hq (fun z => by cases z)
theorem bX4_hears_20 {fr M1 M2 b1 b2 : Nat} {Q : RS → Nat → AH → Prop} {h : AH} {l1 l2 : Int} {x3 x4 : AV} (c1 : cel 137 (h 51 3) (2, 21) := by first | assumption | omega) (r1 : 1 ≤ fr := by omega) (r2 : -2147483648 ≤ l1 - (h (h 51 3) 5) ∧ l1 - (h (h 51 3) 5) < 2147483648 := by omega) (kk : Wp mX4_hears (kR fr M1 M2) Q (b1, b2) 37 [zR 51, zI l1, zI l2, zI (max 0 (l1 - (h (h 51 3) 5))), zI (max 0 (l1 - (h (h 51 3) 5)))] [] 137 h) : Wp mX4_hears (kR fr M1 M2) Q (b1, b2) 20 [zR 51, zI l1, zI l2, x3, x4] [] 137 h := by
  refine s_fgt (fgt_c (fgt_c (fgt_c (fgt_n _ (fgt_n _ fgt_0))))) ?_
  refine s_iconst dX4_hears_20 ?_
  refine s_iload_n (x := l1) dX4_hears_21 rfl ?_
  refine s_aload_n (x := 51) dX4_hears_22 rfl ?_
  refine s_getR (c := 51) dX4_hears_23 lX4_21 e51 rfl ?_
  refine s_get (c := h 51 3) dX4_hears_26 lX4_62 c1 (by decide) ?_
  refine s_isub dX4_hears_29 ?_
  refine s_mmax dX4_hears_30 wd972 wd953 wd19 wd954 r1 (Nat.le_of_ble_eq_true rfl) ⟨by decide, by decide⟩ r2 ?_
  refine s_istore_n dX4_hears_33 rfl (by decide) ?_
  refine s_iload_n (x := max 0 (l1 - (h (h 51 3) 5))) dX4_hears_34 rfl ?_
  refine s_istore dX4_hears_35 rfl (by decide) ?_
  exact kk
theorem bX4_hears_37 {fr M1 M2 b1 b2 : Nat} {Q : RS → Nat → AH → Prop} {h : AH} {l1 l2 l4 : Int} {x3 : AV}  (r1 : -2147483648 ≤ l4 ∧ l4 < 2147483648 := by omega) (r2 : -2147483648 ≤ l1 ∧ l1 < 2147483648 := by omega) (kt : l1 ≤ l4 → Wp mX4_hears (kR fr M1 M2) Q (b1, b2) 70 [zR 51, zI l1, zI l2, none, zI l4] [] 137 h) (kf : l4 < l1 → Wp mX4_hears (kR fr M1 M2) Q (b1, b2) 43 [zR 51, zI l1, zI l2, none, zI l4] [] 137 h) : Wp mX4_hears (kR fr M1 M2) Q (b1, b2) 37 [zR 51, zI l1, zI l2, x3, zI l4] [] 137 h := by
  refine s_fgt (fgt_c (fgt_c (fgt_c (fgt_n _ (fgt_c fgt_0))))) ?_
  refine s_iload (x := l4) dX4_hears_37 rfl ?_
  refine s_iload_n (x := l1) dX4_hears_39 rfl ?_
  exact s_icmp_ge (tgt := 70) dX4_hears_40 (by decide) r1 r2 kt kf
theorem bX4_hears_43 {fr M1 M2 b1 b2 : Nat} {Q : RS → Nat → AH → Prop} {h : AH} {l1 l2 l4 : Int} {x3 : AV} (c1 : cel 137 (h 51 3) (2, 21) := by first | assumption | omega) (r1 : 0 ≤ l4 ∧ l4 < 400 := by omega) (r2 : -2147483648 ≤ h 52 l4 ∧ h 52 l4 < 2147483648 := by omega) (r3 : -2147483648 ≤ l2 + (h (h 51 3) 6) ∧ l2 + (h (h 51 3) 6) < 2147483648 := by omega) (kt : h 52 l4 ≤ l2 + (h (h 51 3) 6) → Wp mX4_hears (kR fr M1 M2) Q (b1, b2) 64 [zR 51, zI l1, zI l2, none, zI l4] [] 137 h) (kf : l2 + (h (h 51 3) 6) < h 52 l4 → Wp mX4_hears (kR fr M1 M2) Q (b1, b2) 62 [zR 51, zI l1, zI l2, none, zI l4] [] 137 h) : Wp mX4_hears (kR fr M1 M2) Q (b1, b2) 43 [zR 51, zI l1, zI l2, x3, zI l4] [] 137 h := by
  refine s_fgt (fgt_c (fgt_c (fgt_c (fgt_n _ (fgt_c fgt_0))))) ?_
  refine s_aload_n (x := 51) dX4_hears_43 rfl ?_
  refine s_getFd (c := 51) (d := 52) dX4_hears_44 lX4_9 e51 (Or.inl rfl) (by decide) (by decide) ?_
  refine s_iload (x := l4) dX4_hears_47 rfl ?_
  refine s_iald (c := 52) (i := l4) dX4_hears_49 e52 r1.1 r1.2 ?_
  refine s_iload_n (x := l2) dX4_hears_50 rfl ?_
  refine s_aload_n (x := 51) dX4_hears_51 rfl ?_
  refine s_getR (c := 51) dX4_hears_52 lX4_21 e51 rfl ?_
  refine s_get (c := h 51 3) dX4_hears_55 lX4_71 c1 (by decide) ?_
  refine s_iadd dX4_hears_58 ?_
  exact s_icmp_le (tgt := 64) dX4_hears_59 (by decide) r2 r3 kt kf
theorem bX4_hears_62 {fr M1 M2 b1 b2 : Nat} {Q : RS → Nat → AH → Prop} {h : AH} {x0 x1 x2 x3 x4 : AV}   (hq : Q (.inl (some (zI (-1)))) 137 h) : Wp mX4_hears (kR fr M1 M2) Q (b1, b2) 62 [x0, x1, x2, x3, x4] [] 137 h := by
  refine s_fgt (fgt_n _ (fgt_n _ (fgt_n _ (fgt_n _ (fgt_n _ fgt_0))))) ?_
  refine s_iconst dX4_hears_62 ?_
  exact s_ireturn dX4_hears_63 ⟨.int, rfl, rfl⟩ hq (fun z => by cases z)
theorem bX4_hears_64 {fr M1 M2 b1 b2 : Nat} {Q : RS → Nat → AH → Prop} {h : AH} {l1 l2 l4 : Int} {x3 : AV}   (kk : Wp mX4_hears (kR fr M1 M2) Q (b1, b2) 37 [zR 51, zI l1, zI l2, none, zI (l4 + 1)] [] 137 h) : Wp mX4_hears (kR fr M1 M2) Q (b1, b2) 64 [zR 51, zI l1, zI l2, x3, zI l4] [] 137 h := by
  refine s_fgt (fgt_c (fgt_c (fgt_c (fgt_n _ (fgt_c fgt_0))))) ?_
  refine s_iinc (x := l4) dX4_hears_64 rfl rfl (by decide) ?_
  exact s_goto (tgt := 37) dX4_hears_67 (by decide) kk
theorem bX4_hears_70 {fr M1 M2 b1 b2 : Nat} {Q : RS → Nat → AH → Prop} {h : AH} {l1 : Int} {x2 x3 x4 : AV}  (r1 : 0 ≤ l1 ∧ l1 < 400 := by omega) (hq : Q (.inl (some (zI (h 53 l1)))) 137 h) : Wp mX4_hears (kR fr M1 M2) Q (b1, b2) 70 [zR 51, zI l1, x2, x3, x4] [] 137 h := by
  refine s_fgt (fgt_c (fgt_c (fgt_n _ (fgt_n _ (fgt_n _ fgt_0))))) ?_
  refine s_aload_n (x := 51) dX4_hears_70 rfl ?_
  refine s_getFd (c := 51) (d := 53) dX4_hears_71 lX4_15 e51 (Or.inl rfl) (by decide) (by decide) ?_
  refine s_iload_n (x := l1) dX4_hears_74 rfl ?_
  refine s_iald (c := 53) (i := l1) dX4_hears_75 e53 r1.1 r1.2 ?_
  exact s_ireturn dX4_hears_76 ⟨.int, rfl, rfl⟩ hq (fun z => by cases z)
theorem dX4_loudness_0 : decode mX4_loudness.cd 0 = .ok (.iconst 0, 1) := by decide +kernel
theorem dX4_loudness_1 : decode mX4_loudness.cd 1 = .ok (.istore_n 3, 1) := by decide +kernel
theorem dX4_loudness_2 : decode mX4_loudness.cd 2 = .ok (.iconst 0, 1) := by decide +kernel
theorem dX4_loudness_3 : decode mX4_loudness.cd 3 = .ok (.istore 4, 2) := by decide +kernel
theorem dX4_loudness_5 : decode mX4_loudness.cd 5 = .ok (.iload 4, 2) := by decide +kernel
theorem dX4_loudness_7 : decode mX4_loudness.cd 7 = .ok (.aload_n 0, 1) := by decide +kernel
theorem dX4_loudness_8 : decode mX4_loudness.cd 8 = .ok (.getfield 25, 3) := by decide +kernel
theorem dX4_loudness_11 : decode mX4_loudness.cd 11 = .ok (.getfield 42, 3) := by decide +kernel
theorem dX4_loudness_14 : decode mX4_loudness.cd 14 = .ok (.if_icmp .ge 69, 3) := by decide +kernel
theorem dX4_loudness_17 : decode mX4_loudness.cd 17 = .ok (.iload_n 1, 1) := by decide +kernel
theorem dX4_loudness_18 : decode mX4_loudness.cd 18 = .ok (.aload_n 0, 1) := by decide +kernel
theorem dX4_loudness_19 : decode mX4_loudness.cd 19 = .ok (.getfield 25, 3) := by decide +kernel
theorem dX4_loudness_22 : decode mX4_loudness.cd 22 = .ok (.getfield 47, 3) := by decide +kernel
theorem dX4_loudness_25 : decode mX4_loudness.cd 25 = .ok (.iload 4, 2) := by decide +kernel
theorem dX4_loudness_27 : decode mX4_loudness.cd 27 = .ok (.iaload, 1) := by decide +kernel
theorem dX4_loudness_28 : decode mX4_loudness.cd 28 = .ok (.isub, 1) := by decide +kernel
theorem dX4_loudness_29 : decode mX4_loudness.cd 29 = .ok (.istore 5, 2) := by decide +kernel
theorem dX4_loudness_31 : decode mX4_loudness.cd 31 = .ok (.iload 5, 2) := by decide +kernel
theorem dX4_loudness_33 : decode mX4_loudness.cd 33 = .ok (.ifCond .lt 44, 3) := by decide +kernel
theorem dX4_loudness_36 : decode mX4_loudness.cd 36 = .ok (.iload 5, 2) := by decide +kernel
theorem dX4_loudness_38 : decode mX4_loudness.cd 38 = .ok (.aload_n 0, 1) := by decide +kernel
theorem dX4_loudness_39 : decode mX4_loudness.cd 39 = .ok (.getfield 32, 3) := by decide +kernel
theorem dX4_loudness_42 : decode mX4_loudness.cd 42 = .ok (.if_icmp .gt 35, 3) := by decide +kernel
theorem dX4_loudness_45 : decode mX4_loudness.cd 45 = .ok (.aload_n 0, 1) := by decide +kernel
theorem dX4_loudness_46 : decode mX4_loudness.cd 46 = .ok (.getfield 29, 3) := by decide +kernel
theorem dX4_loudness_49 : decode mX4_loudness.cd 49 = .ok (.iload 5, 2) := by decide +kernel
theorem dX4_loudness_51 : decode mX4_loudness.cd 51 = .ok (.iaload, 1) := by decide +kernel
theorem dX4_loudness_52 : decode mX4_loudness.cd 52 = .ok (.iload_n 2, 1) := by decide +kernel
theorem dX4_loudness_53 : decode mX4_loudness.cd 53 = .ok (.ishr, 1) := by decide +kernel
theorem dX4_loudness_54 : decode mX4_loudness.cd 54 = .ok (.iconst 1, 1) := by decide +kernel
theorem dX4_loudness_55 : decode mX4_loudness.cd 55 = .ok (.iand, 1) := by decide +kernel
theorem dX4_loudness_56 : decode mX4_loudness.cd 56 = .ok (.ifCond .eq 21, 3) := by decide +kernel
theorem dX4_loudness_59 : decode mX4_loudness.cd 59 = .ok (.iload_n 3, 1) := by decide +kernel
theorem dX4_loudness_60 : decode mX4_loudness.cd 60 = .ok (.aload_n 0, 1) := by decide +kernel
theorem dX4_loudness_61 : decode mX4_loudness.cd 61 = .ok (.getfield 25, 3) := by decide +kernel
theorem dX4_loudness_64 : decode mX4_loudness.cd 64 = .ok (.getfield 54, 3) := by decide +kernel
theorem dX4_loudness_67 : decode mX4_loudness.cd 67 = .ok (.iload 4, 2) := by decide +kernel
theorem dX4_loudness_69 : decode mX4_loudness.cd 69 = .ok (.bipush 8, 2) := by decide +kernel
theorem dX4_loudness_71 : decode mX4_loudness.cd 71 = .ok (.imul, 1) := by decide +kernel
theorem dX4_loudness_72 : decode mX4_loudness.cd 72 = .ok (.iload_n 2, 1) := by decide +kernel
theorem dX4_loudness_73 : decode mX4_loudness.cd 73 = .ok (.iadd, 1) := by decide +kernel
theorem dX4_loudness_74 : decode mX4_loudness.cd 74 = .ok (.iaload, 1) := by decide +kernel
theorem dX4_loudness_75 : decode mX4_loudness.cd 75 = .ok (.iadd, 1) := by decide +kernel
theorem dX4_loudness_76 : decode mX4_loudness.cd 76 = .ok (.istore_n 3, 1) := by decide +kernel
theorem dX4_loudness_77 : decode mX4_loudness.cd 77 = .ok (.iinc 4 1, 3) := by decide +kernel
theorem dX4_loudness_80 : decode mX4_loudness.cd 80 = .ok (.goto (-75), 3) := by decide +kernel
theorem dX4_loudness_83 : decode mX4_loudness.cd 83 = .ok (.iload_n 3, 1) := by decide +kernel
theorem dX4_loudness_84 : decode mX4_loudness.cd 84 = .ok (.ireturn, 1) := by decide +kernel
theorem bX4_loudness_0 {fr M1 M2 b1 b2 : Nat} {Q : RS → Nat → AH → Prop} {h : AH} {l1 l2 : Int} {x3 x4 x5 : AV}   (kk : Wp mX4_loudness (kR fr M1 M2) Q (b1, b2) 5 [zR 51, zI l1, zI l2, zI 0, zI 0, none] [] 137 h) : Wp mX4_loudness (kR fr M1 M2) Q (b1, b2) 0 [zR 51, zI l1, zI l2, x3, x4, x5] [] 137 h := by
  refine s_fgt (fgt_c (fgt_c (fgt_c (fgt_n _ (fgt_n _ (fgt_n _ fgt_0)))))) ?_
  refine s_iconst dX4_loudness_0 ?_
  refine s_istore_n dX4_loudness_1 rfl (by decide) ?_
  refine s_iconst dX4_loudness_2 ?_
  refine s_istore dX4_loudness_3 rfl (by decide) ?_
  exact kk
theorem bX4_loudness_5 {fr M1 M2 b1 b2 : Nat} {Q : RS → Nat → AH → Prop} {h : AH} {l1 l2 l3 l4 : Int} {x5 : AV} (c1 : cel 137 (h 51 4) (7, 9) := by first | assumption | omega) (r1 : -2147483648 ≤ l4 ∧ l4 < 2147483648 := by omega) (r2 : -2147483648 ≤ h (h 51 4) 2 ∧ h (h 51 4) 2 < 2147483648 := by omega) (kt : h (h 51 4) 2 ≤ l4 → Wp mX4_loudness (kR fr M1 M2) Q (b1, b2) 83 [zR 51, zI l1, zI l2, zI l3, zI l4, none] [] 137 h) (kf : l4 < h (h 51 4) 2 → Wp mX4_loudness (kR fr M1 M2) Q (b1, b2) 17 [zR 51, zI l1, zI l2, zI l3, zI l4, none] [] 137 h) : Wp mX4_loudness (kR fr M1 M2) Q (b1, b2) 5 [zR 51, zI l1, zI l2, zI l3, zI l4, x5] [] 137 h := by
  refine s_fgt (fgt_c (fgt_c (fgt_c (fgt_c (fgt_c (fgt_n _ fgt_0)))))) ?_
  refine s_iload (x := l4) dX4_loudness_5 rfl ?_
  refine s_aload_n (x := 51) dX4_loudness_7 rfl ?_
  refine s_getR (c := 51) dX4_loudness_8 lX4_25 e51 rfl ?_
  refine s_get (c := h 51 4) dX4_loudness_11 lX4_42 c1 (by decide) ?_
  exact s_icmp_ge (tgt := 83) dX4_loudness_14 (by decide) r1 r2 kt kf
theorem bX4_loudness_17 {fr M1 M2 b1 b2 : Nat} {Q : RS → Nat → AH → Prop} {h : AH} {l1 l2 l3 l4 : Int} {x5 : AV} (c1 : cel 137 (h 51 4) (7, 9) := by first | assumption | omega) (r1 : 0 ≤ l4 ∧ l4 < 19 := by omega) (r2 : -2147483648 ≤ l1 - (h ((h 51 4) + 1) l4) ∧ l1 - (h ((h 51 4) + 1) l4) < 2147483648 := by omega) (kt : l1 - (h ((h 51 4) + 1) l4) < 0 → Wp mX4_loudness (kR fr M1 M2) Q (b1, b2) 77 [zR 51, zI l1, zI l2, zI l3, zI l4, zI (l1 - (h ((h 51 4) + 1) l4))] [] 137 h) (kf : 0 ≤ l1 - (h ((h 51 4) + 1) l4) → Wp mX4_loudness (kR fr M1 M2) Q (b1, b2) 36 [zR 51, zI l1, zI l2, zI l3, zI l4, zI (l1 - (h ((h 51 4) + 1) l4))] [] 137 h) : Wp mX4_loudness (kR fr M1 M2) Q (b1, b2) 17 [zR 51, zI l1, zI l2, zI l3, zI l4, x5] [] 137 h := by
  refine s_fgt (fgt_c (fgt_c (fgt_c (fgt_c (fgt_c (fgt_n _ fgt_0)))))) ?_
  refine s_iload_n (x := l1) dX4_loudness_17 rfl ?_
  refine s_aload_n (x := 51) dX4_loudness_18 rfl ?_
  refine s_getR (c := 51) dX4_loudness_19 lX4_25 e51 rfl ?_
  refine s_getFd (c := h 51 4) (d := (h 51 4) + 1) dX4_loudness_22 lX4_47 c1 (Or.inl rfl) rfl (ne0 (fin_X7_0 c1)) ?_
  refine s_iload (x := l4) dX4_loudness_25 rfl ?_
  refine s_iald (c := (h 51 4) + 1) (i := l4) dX4_loudness_27 (fin_X7_0 c1) r1.1 r1.2 ?_
  refine s_isub dX4_loudness_28 ?_
  refine s_istore dX4_loudness_29 rfl (by decide) ?_
  refine s_iload (x := l1 - (h ((h 51 4) + 1) l4)) dX4_loudness_31 rfl ?_
  exact s_if_lt (tgt := 77) dX4_loudness_33 (by decide) r2 kt kf
theorem bX4_loudness_36 {fr M1 M2 b1 b2 : Nat} {Q : RS → Nat → AH → Prop} {h : AH} {l1 l2 l3 l4 l5 : Int}  (r1 : -2147483648 ≤ l5 ∧ l5 < 2147483648 := by omega) (r2 : -2147483648 ≤ h 51 6 ∧ h 51 6 < 2147483648 := by omega) (kt : h 51 6 < l5 → Wp mX4_loudness (kR fr M1 M2) Q (b1, b2) 77 [zR 51, zI l1, zI l2, zI l3, zI l4, zI l5] [] 137 h) (kf : l5 ≤ h 51 6 → Wp mX4_loudness (kR fr M1 M2) Q (b1, b2) 45 [zR 51, zI l1, zI l2, zI l3, zI l4, zI l5] [] 137 h) : Wp mX4_loudness (kR fr M1 M2) Q (b1, b2) 36 [zR 51, zI l1, zI l2, zI l3, zI l4, zI l5] [] 137 h := by
  refine s_iload (x := l5) dX4_loudness_36 rfl ?_
  refine s_aload_n (x := 51) dX4_loudness_38 rfl ?_
  refine s_get (c := 51) dX4_loudness_39 lX4_32 e51 (by decide) ?_
  exact s_icmp_gt (tgt := 77) dX4_loudness_42 (by decide) r1 r2 kt kf
theorem bX4_loudness_45 {fr M1 M2 b1 b2 : Nat} {Q : RS → Nat → AH → Prop} {h : AH} {l1 l2 l3 l4 l5 : Int} {N1 : Nat} (c1 : cel 137 (h 51 5) (100, N1) := by first | assumption | omega) (r1 : 0 ≤ l5 ∧ l5 < N1 := by omega) (r2 : 0 ≤ l2 ∧ l2 < 32 := by omega) (r3 : -2147483648 ≤ h (h 51 5) l5 ∧ h (h 51 5) l5 < 2147483648 := by omega) (r4 : -2147483648 ≤ bAnd ((h (h 51 5) l5) / 2 ^ l2.toNat) 1 ∧ bAnd ((h (h 51 5) l5) / 2 ^ l2.toNat) 1 < 2147483648 := by omega) (kt : bAnd ((h (h 51 5) l5) / 2 ^ l2.toNat) 1 = 0 → Wp mX4_loudness (kR fr M1 M2) Q (b1, b2) 77 [zR 51, zI l1, zI l2, zI l3, zI l4, zI l5] [] 137 h) (kf : ¬ bAnd ((h (h 51 5) l5) / 2 ^ l2.toNat) 1 = 0 → Wp mX4_loudness (kR fr M1 M2) Q (b1, b2) 59 [zR 51, zI l1, zI l2, zI l3, zI l4, zI l5] [] 137 h) : Wp mX4_loudness (kR fr M1 M2) Q (b1, b2) 45 [zR 51, zI l1, zI l2, zI l3, zI l4, zI l5] [] 137 h := by
  refine s_aload_n (x := 51) dX4_loudness_45 rfl ?_
  refine s_getR (c := 51) dX4_loudness_46 lX4_29 e51 rfl ?_
  refine s_iload (x := l5) dX4_loudness_49 rfl ?_
  refine s_iald (c := h 51 5) (i := l5) dX4_loudness_51 c1 r1.1 r1.2 ?_
  refine s_iload_n (x := l2) dX4_loudness_52 rfl ?_
  refine s_ishrN dX4_loudness_53 r3 r2.1 r2.2 ?_
  refine s_iconst dX4_loudness_54 ?_
  refine s_iand dX4_loudness_55 ?_
  exact s_if_eq (tgt := 77) dX4_loudness_56 (by decide) r4 kt kf
theorem bX4_loudness_59 {fr M1 M2 b1 b2 : Nat} {Q : RS → Nat → AH → Prop} {h : AH} {l1 l2 l3 l4 : Int} {x5 : AV} (c1 : cel 137 (h 51 4) (7, 9) := by first | assumption | omega) (r1 : 0 ≤ (l4 * 8) + l2 ∧ (l4 * 8) + l2 < 152 := by omega) (kk : Wp mX4_loudness (kR fr M1 M2) Q (b1, b2) 77 [zR 51, zI l1, zI l2, zI (l3 + (h ((h 51 4) + 2) ((l4 * 8) + l2))), zI l4, none] [] 137 h) : Wp mX4_loudness (kR fr M1 M2) Q (b1, b2) 59 [zR 51, zI l1, zI l2, zI l3, zI l4, x5] [] 137 h := by
  refine s_fgt (fgt_c (fgt_c (fgt_c (fgt_c (fgt_c (fgt_n _ fgt_0)))))) ?_
  refine s_iload_n (x := l3) dX4_loudness_59 rfl ?_
  refine s_aload_n (x := 51) dX4_loudness_60 rfl ?_
  refine s_getR (c := 51) dX4_loudness_61 lX4_25 e51 rfl ?_
  refine s_getFd (c := h 51 4) (d := (h 51 4) + 2) dX4_loudness_64 lX4_54 c1 (Or.inl rfl) rfl (ne0 (fin_X7_1 c1)) ?_
  refine s_iload (x := l4) dX4_loudness_67 rfl ?_
  refine s_bipush dX4_loudness_69 (by decide) ?_
  refine s_imul dX4_loudness_71 ?_
  refine s_iload_n (x := l2) dX4_loudness_72 rfl ?_
  refine s_iadd dX4_loudness_73 ?_
  refine s_iald (c := (h 51 4) + 2) (i := (l4 * 8) + l2) dX4_loudness_74 (fin_X7_1 c1) r1.1 r1.2 ?_
  refine s_iadd dX4_loudness_75 ?_
  refine s_istore_n dX4_loudness_76 rfl (by decide) ?_
  exact kk
theorem bX4_loudness_77 {fr M1 M2 b1 b2 : Nat} {Q : RS → Nat → AH → Prop} {h : AH} {l1 l2 l3 l4 : Int} {x5 : AV}   (kk : Wp mX4_loudness (kR fr M1 M2) Q (b1, b2) 5 [zR 51, zI l1, zI l2, zI l3, zI (l4 + 1), none] [] 137 h) : Wp mX4_loudness (kR fr M1 M2) Q (b1, b2) 77 [zR 51, zI l1, zI l2, zI l3, zI l4, x5] [] 137 h := by
  refine s_fgt (fgt_c (fgt_c (fgt_c (fgt_c (fgt_c (fgt_n _ fgt_0)))))) ?_
  refine s_iinc (x := l4) dX4_loudness_77 rfl rfl (by decide) ?_
  exact s_goto (tgt := 5) dX4_loudness_80 (by decide) kk
theorem bX4_loudness_83 {fr M1 M2 b1 b2 : Nat} {Q : RS → Nat → AH → Prop} {h : AH} {l3 : Int} {x0 x1 x2 x4 x5 : AV}   (hq : Q (.inl (some (zI l3))) 137 h) : Wp mX4_loudness (kR fr M1 M2) Q (b1, b2) 83 [x0, x1, x2, zI l3, x4, x5] [] 137 h := by
  refine s_fgt (fgt_n _ (fgt_n _ (fgt_n _ (fgt_c (fgt_n _ (fgt_n _ fgt_0)))))) ?_
  refine s_iload_n (x := l3) dX4_loudness_83 rfl ?_
  exact s_ireturn dX4_loudness_84 ⟨.int, rfl, rfl⟩ hq (fun z => by cases z)
