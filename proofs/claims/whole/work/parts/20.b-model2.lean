theorem dX12_opens_0 : decode mX12_opens.cd 0 = .ok (.aload_n 0, 1) := by decide +kernel
theorem dX12_opens_1 : decode mX12_opens.cd 1 = .ok (.iload_n 1, 1) := by decide +kernel
theorem dX12_opens_2 : decode mX12_opens.cd 2 = .ok (.putfield 309, 3) := by decide +kernel
theorem dX12_opens_5 : decode mX12_opens.cd 5 = .ok (.aload_n 0, 1) := by decide +kernel
theorem dX12_opens_6 : decode mX12_opens.cd 6 = .ok (.iload_n 2, 1) := by decide +kernel
theorem dX12_opens_7 : decode mX12_opens.cd 7 = .ok (.putfield 312, 3) := by decide +kernel
theorem dX12_opens_10 : decode mX12_opens.cd 10 = .ok (.aload_n 0, 1) := by decide +kernel
theorem dX12_opens_11 : decode mX12_opens.cd 11 = .ok (.iload_n 3, 1) := by decide +kernel
theorem dX12_opens_12 : decode mX12_opens.cd 12 = .ok (.putfield 315, 3) := by decide +kernel
theorem dX12_opens_15 : decode mX12_opens.cd 15 = .ok (.iconst 0, 1) := by decide +kernel
theorem dX12_opens_16 : decode mX12_opens.cd 16 = .ok (.istore 4, 2) := by decide +kernel
theorem dX12_opens_18 : decode mX12_opens.cd 18 = .ok (.iload 4, 2) := by decide +kernel
theorem dX12_opens_20 : decode mX12_opens.cd 20 = .ok (.bipush 8, 2) := by decide +kernel
theorem dX12_opens_22 : decode mX12_opens.cd 22 = .ok (.iload_n 1, 1) := by decide +kernel
theorem dX12_opens_23 : decode mX12_opens.cd 23 = .ok (.imul, 1) := by decide +kernel
theorem dX12_opens_24 : decode mX12_opens.cd 24 = .ok (.if_icmp .ge 17, 3) := by decide +kernel
theorem dX12_opens_27 : decode mX12_opens.cd 27 = .ok (.aload_n 0, 1) := by decide +kernel
theorem dX12_opens_28 : decode mX12_opens.cd 28 = .ok (.getfield 65, 3) := by decide +kernel
theorem dX12_opens_31 : decode mX12_opens.cd 31 = .ok (.iload 4, 2) := by decide +kernel
theorem dX12_opens_33 : decode mX12_opens.cd 33 = .ok (.iconst 0, 1) := by decide +kernel
theorem dX12_opens_34 : decode mX12_opens.cd 34 = .ok (.iastore, 1) := by decide +kernel
theorem dX12_opens_35 : decode mX12_opens.cd 35 = .ok (.iinc 4 1, 3) := by decide +kernel
theorem dX12_opens_38 : decode mX12_opens.cd 38 = .ok (.goto (-20), 3) := by decide +kernel
theorem dX12_opens_41 : decode mX12_opens.cd 41 = .ok (.return_, 1) := by decide +kernel
theorem bX12_opens_0 {fr M1 M2 b1 b2 : Nat} {Q : RS → Nat → AH → Prop} {h : AH} {l1 l2 l3 : Int} {x4 : AV}   (kk : Wp mX12_opens (kR fr M1 M2) Q (b1, b2) 18 [zR 98, zI l1, zI l2, zI l3, zI 0] [] 137 (up (up (up h 98 45 l1) 98 48 l2) 98 49 l3)) : Wp mX12_opens (kR fr M1 M2) Q (b1, b2) 0 [zR 98, zI l1, zI l2, zI l3, x4] [] 137 h := by
  refine s_fgt (fgt_c (fgt_c (fgt_c (fgt_c (fgt_n _ fgt_0))))) ?_
  refine s_aload_n (x := 98) dX12_opens_0 rfl ?_
  refine s_iload_n (x := l1) dX12_opens_1 rfl ?_
  refine s_put (c := 98) dX12_opens_2 lX12_309 e98 ?_
  refine s_aload_n (x := 98) dX12_opens_5 rfl ?_
  refine s_iload_n (x := l2) dX12_opens_6 rfl ?_
  refine s_put (c := 98) dX12_opens_7 lX12_312 e98 ?_
  refine s_aload_n (x := 98) dX12_opens_10 rfl ?_
  refine s_iload_n (x := l3) dX12_opens_11 rfl ?_
  refine s_put (c := 98) dX12_opens_12 lX12_315 e98 ?_
  refine s_iconst dX12_opens_15 ?_
  refine s_istore dX12_opens_16 rfl (by decide) ?_
  exact kk
theorem bX12_opens_18 {fr M1 M2 b1 b2 : Nat} {Q : RS → Nat → AH → Prop} {h : AH} {l1 l4 : Int} {x2 x3 : AV}  (r1 : -2147483648 ≤ l4 ∧ l4 < 2147483648 := by omega) (r2 : -2147483648 ≤ 8 * l1 ∧ 8 * l1 < 2147483648 := by omega) (kt : 8 * l1 ≤ l4 → Wp mX12_opens (kR fr M1 M2) Q (b1, b2) 41 [zR 98, zI l1, none, none, zI l4] [] 137 h) (kf : l4 < 8 * l1 → Wp mX12_opens (kR fr M1 M2) Q (b1, b2) 27 [zR 98, zI l1, none, none, zI l4] [] 137 h) : Wp mX12_opens (kR fr M1 M2) Q (b1, b2) 18 [zR 98, zI l1, x2, x3, zI l4] [] 137 h := by
  refine s_fgt (fgt_c (fgt_c (fgt_n _ (fgt_n _ (fgt_c fgt_0))))) ?_
  refine s_iload (x := l4) dX12_opens_18 rfl ?_
  refine s_bipush dX12_opens_20 (by decide) ?_
  refine s_iload_n (x := l1) dX12_opens_22 rfl ?_
  refine s_imul dX12_opens_23 ?_
  exact s_icmp_ge (tgt := 41) dX12_opens_24 (by decide) r1 r2 kt kf
theorem bX12_opens_27 {fr M1 M2 b1 b2 : Nat} {Q : RS → Nat → AH → Prop} {h : AH} {l1 l4 : Int} {x2 x3 : AV}  (r1 : 0 ≤ l4 ∧ l4 < 3200 := by omega) (kk : Wp mX12_opens (kR fr M1 M2) Q (b1, b2) 18 [zR 98, zI l1, none, none, zI (l4 + 1)] [] 137 (up h 115 l4 0)) : Wp mX12_opens (kR fr M1 M2) Q (b1, b2) 27 [zR 98, zI l1, x2, x3, zI l4] [] 137 h := by
  refine s_fgt (fgt_c (fgt_c (fgt_n _ (fgt_n _ (fgt_c fgt_0))))) ?_
  refine s_aload_n (x := 98) dX12_opens_27 rfl ?_
  refine s_getFd (c := 98) (d := 115) dX12_opens_28 lX12_65 e98 (Or.inl rfl) (by decide) (by decide) ?_
  refine s_iload (x := l4) dX12_opens_31 rfl ?_
  refine s_iconst dX12_opens_33 ?_
  refine s_iast (c := 115) (i := l4) dX12_opens_34 e115 r1.1 r1.2 ?_
  refine s_iinc (x := l4) dX12_opens_35 rfl rfl (by decide) ?_
  exact s_goto (tgt := 18) dX12_opens_38 (by decide) kk
theorem bX12_opens_41 {fr M1 M2 b1 b2 : Nat} {Q : RS → Nat → AH → Prop} {h : AH} {x0 x1 x2 x3 x4 : AV}   (hq : Q (.inl none) 137 h) : Wp mX12_opens (kR fr M1 M2) Q (b1, b2) 41 [x0, x1, x2, x3, x4] [] 137 h := by
  refine s_fgt (fgt_n _ (fgt_n _ (fgt_n _ (fgt_n _ (fgt_n _ fgt_0))))) ?_
  exact s_return dX12_opens_41 rfl hq (fun z => by cases z)
theorem dX12_comes_0 : decode mX12_comes.cd 0 = .ok (.iload_n 2, 1) := by decide +kernel
theorem dX12_comes_1 : decode mX12_comes.cd 1 = .ok (.ifCond .lt 26, 3) := by decide +kernel
theorem dX12_comes_4 : decode mX12_comes.cd 4 = .ok (.iload_n 2, 1) := by decide +kernel
theorem dX12_comes_5 : decode mX12_comes.cd 5 = .ok (.aload_n 0, 1) := by decide +kernel
theorem dX12_comes_6 : decode mX12_comes.cd 6 = .ok (.getfield 309, 3) := by decide +kernel
theorem dX12_comes_9 : decode mX12_comes.cd 9 = .ok (.if_icmp .ge 18, 3) := by decide +kernel
theorem dX12_comes_12 : decode mX12_comes.cd 12 = .ok (.aload_n 0, 1) := by decide +kernel
theorem dX12_comes_13 : decode mX12_comes.cd 13 = .ok (.getfield 65, 3) := by decide +kernel
theorem dX12_comes_16 : decode mX12_comes.cd 16 = .ok (.bipush 8, 2) := by decide +kernel
theorem dX12_comes_18 : decode mX12_comes.cd 18 = .ok (.iload_n 2, 1) := by decide +kernel
theorem dX12_comes_19 : decode mX12_comes.cd 19 = .ok (.imul, 1) := by decide +kernel
theorem dX12_comes_20 : decode mX12_comes.cd 20 = .ok (.iload_n 1, 1) := by decide +kernel
theorem dX12_comes_21 : decode mX12_comes.cd 21 = .ok (.iadd, 1) := by decide +kernel
theorem dX12_comes_22 : decode mX12_comes.cd 22 = .ok (.dup2, 1) := by decide +kernel
theorem dX12_comes_23 : decode mX12_comes.cd 23 = .ok (.iaload, 1) := by decide +kernel
theorem dX12_comes_24 : decode mX12_comes.cd 24 = .ok (.iload_n 3, 1) := by decide +kernel
theorem dX12_comes_25 : decode mX12_comes.cd 25 = .ok (.iadd, 1) := by decide +kernel
theorem dX12_comes_26 : decode mX12_comes.cd 26 = .ok (.iastore, 1) := by decide +kernel
theorem dX12_comes_27 : decode mX12_comes.cd 27 = .ok (.return_, 1) := by decide +kernel
theorem bX12_comes_0 {fr M1 M2 b1 b2 : Nat} {Q : RS → Nat → AH → Prop} {h : AH} {l1 l2 l3 : Int}  (r1 : -2147483648 ≤ l2 ∧ l2 < 2147483648 := by omega) (kt : l2 < 0 → Wp mX12_comes (kR fr M1 M2) Q (b1, b2) 27 [zR 98, zI l1, zI l2, zI l3] [] 137 h) (kf : 0 ≤ l2 → Wp mX12_comes (kR fr M1 M2) Q (b1, b2) 4 [zR 98, zI l1, zI l2, zI l3] [] 137 h) : Wp mX12_comes (kR fr M1 M2) Q (b1, b2) 0 [zR 98, zI l1, zI l2, zI l3] [] 137 h := by
  refine s_iload_n (x := l2) dX12_comes_0 rfl ?_
  exact s_if_lt (tgt := 27) dX12_comes_1 (by decide) r1 kt kf
theorem bX12_comes_4 {fr M1 M2 b1 b2 : Nat} {Q : RS → Nat → AH → Prop} {h : AH} {l1 l2 l3 : Int}  (r1 : -2147483648 ≤ l2 ∧ l2 < 2147483648 := by omega) (r2 : -2147483648 ≤ h 98 45 ∧ h 98 45 < 2147483648 := by omega) (kt : h 98 45 ≤ l2 → Wp mX12_comes (kR fr M1 M2) Q (b1, b2) 27 [zR 98, zI l1, zI l2, zI l3] [] 137 h) (kf : l2 < h 98 45 → Wp mX12_comes (kR fr M1 M2) Q (b1, b2) 12 [zR 98, zI l1, zI l2, zI l3] [] 137 h) : Wp mX12_comes (kR fr M1 M2) Q (b1, b2) 4 [zR 98, zI l1, zI l2, zI l3] [] 137 h := by
  refine s_iload_n (x := l2) dX12_comes_4 rfl ?_
  refine s_aload_n (x := 98) dX12_comes_5 rfl ?_
  refine s_get (c := 98) dX12_comes_6 lX12_309 e98 (by decide) ?_
  exact s_icmp_ge (tgt := 27) dX12_comes_9 (by decide) r1 r2 kt kf
theorem bX12_comes_12 {fr M1 M2 b1 b2 : Nat} {Q : RS → Nat → AH → Prop} {h : AH} {l1 l2 l3 : Int}  (r1 : 0 ≤ (8 * l2) + l1 ∧ (8 * l2) + l1 < 3200 := by omega) (kk : Wp mX12_comes (kR fr M1 M2) Q (b1, b2) 27 [zR 98, zI l1, zI l2, zI l3] [] 137 (up h 115 ((8 * l2) + l1) ((h 115 ((8 * l2) + l1)) + l3))) : Wp mX12_comes (kR fr M1 M2) Q (b1, b2) 12 [zR 98, zI l1, zI l2, zI l3] [] 137 h := by
  refine s_aload_n (x := 98) dX12_comes_12 rfl ?_
  refine s_getFd (c := 98) (d := 115) dX12_comes_13 lX12_65 e98 (Or.inl rfl) (by decide) (by decide) ?_
  refine s_bipush dX12_comes_16 (by decide) ?_
  refine s_iload_n (x := l2) dX12_comes_18 rfl ?_
  refine s_imul dX12_comes_19 ?_
  refine s_iload_n (x := l1) dX12_comes_20 rfl ?_
  refine s_iadd dX12_comes_21 ?_
  refine s_dup2 dX12_comes_22 rfl rfl ?_
  refine s_iald (c := 115) (i := (8 * l2) + l1) dX12_comes_23 e115 r1.1 r1.2 ?_
  refine s_iload_n (x := l3) dX12_comes_24 rfl ?_
  refine s_iadd dX12_comes_25 ?_
  refine s_iast (c := 115) (i := (8 * l2) + l1) dX12_comes_26 e115 r1.1 r1.2 ?_
  exact kk
theorem bX12_comes_27 {fr M1 M2 b1 b2 : Nat} {Q : RS → Nat → AH → Prop} {h : AH} {x0 x1 x2 x3 : AV}   (hq : Q (.inl none) 137 h) : Wp mX12_comes (kR fr M1 M2) Q (b1, b2) 27 [x0, x1, x2, x3] [] 137 h := by
  refine s_fgt (fgt_n _ (fgt_n _ (fgt_n _ (fgt_n _ fgt_0)))) ?_
  exact s_return dX12_comes_27 rfl hq (fun z => by cases z)
theorem dX12_says_0 : decode mX12_says.cd 0 = .ok (.aload_n 0, 1) := by decide +kernel
theorem dX12_says_1 : decode mX12_says.cd 1 = .ok (.iload_n 1, 1) := by decide +kernel
theorem dX12_says_2 : decode mX12_says.cd 2 = .ok (.iload_n 2, 1) := by decide +kernel
theorem dX12_says_3 : decode mX12_says.cd 3 = .ok (.aload_n 0, 1) := by decide +kernel
theorem dX12_says_4 : decode mX12_says.cd 4 = .ok (.getfield 26, 3) := by decide +kernel
theorem dX12_says_7 : decode mX12_says.cd 7 = .ok (.aload_n 0, 1) := by decide +kernel
theorem dX12_says_8 : decode mX12_says.cd 8 = .ok (.getfield 312, 3) := by decide +kernel
theorem dX12_says_11 : decode mX12_says.cd 11 = .ok (.iaload, 1) := by decide +kernel
theorem dX12_says_12 : decode mX12_says.cd 12 = .ok (.iadd, 1) := by decide +kernel
theorem dX12_says_13 : decode mX12_says.cd 13 = .ok (.aload_n 0, 1) := by decide +kernel
theorem dX12_says_14 : decode mX12_says.cd 14 = .ok (.getfield 13, 3) := by decide +kernel
theorem dX12_says_17 : decode mX12_says.cd 17 = .ok (.iconst 2, 1) := by decide +kernel
theorem dX12_says_18 : decode mX12_says.cd 18 = .ok (.iload_n 1, 1) := by decide +kernel
theorem dX12_says_19 : decode mX12_says.cd 19 = .ok (.imul, 1) := by decide +kernel
theorem dX12_says_20 : decode mX12_says.cd 20 = .ok (.iaload, 1) := by decide +kernel
theorem dX12_says_21 : decode mX12_says.cd 21 = .ok (.invokevirtual 318, 3) := by decide +kernel
theorem dX12_says_24 : decode mX12_says.cd 24 = .ok (.iconst 0, 1) := by decide +kernel
theorem dX12_says_25 : decode mX12_says.cd 25 = .ok (.istore_n 3, 1) := by decide +kernel
theorem dX12_says_26 : decode mX12_says.cd 26 = .ok (.iload_n 3, 1) := by decide +kernel
theorem dX12_says_27 : decode mX12_says.cd 27 = .ok (.aload_n 0, 1) := by decide +kernel
theorem dX12_says_28 : decode mX12_says.cd 28 = .ok (.getfield 270, 3) := by decide +kernel
theorem dX12_says_31 : decode mX12_says.cd 31 = .ok (.if_icmp .ge 156, 3) := by decide +kernel
theorem dX12_says_34 : decode mX12_says.cd 34 = .ok (.iload_n 3, 1) := by decide +kernel
theorem dX12_says_35 : decode mX12_says.cd 35 = .ok (.aload_n 0, 1) := by decide +kernel
theorem dX12_says_36 : decode mX12_says.cd 36 = .ok (.getfield 68, 3) := by decide +kernel
theorem dX12_says_39 : decode mX12_says.cd 39 = .ok (.if_icmp .eq 142, 3) := by decide +kernel
theorem dX12_says_42 : decode mX12_says.cd 42 = .ok (.aload_n 0, 1) := by decide +kernel
theorem dX12_says_43 : decode mX12_says.cd 43 = .ok (.getfield 17, 3) := by decide +kernel
theorem dX12_says_46 : decode mX12_says.cd 46 = .ok (.bipush 6, 2) := by decide +kernel
theorem dX12_says_48 : decode mX12_says.cd 48 = .ok (.iload_n 3, 1) := by decide +kernel
theorem dX12_says_49 : decode mX12_says.cd 49 = .ok (.imul, 1) := by decide +kernel
theorem dX12_says_50 : decode mX12_says.cd 50 = .ok (.iconst 4, 1) := by decide +kernel
theorem dX12_says_51 : decode mX12_says.cd 51 = .ok (.iadd, 1) := by decide +kernel
theorem dX12_says_52 : decode mX12_says.cd 52 = .ok (.iaload, 1) := by decide +kernel
theorem dX12_says_53 : decode mX12_says.cd 53 = .ok (.aload_n 0, 1) := by decide +kernel
theorem dX12_says_54 : decode mX12_says.cd 54 = .ok (.getfield 13, 3) := by decide +kernel
theorem dX12_says_57 : decode mX12_says.cd 57 = .ok (.iconst 2, 1) := by decide +kernel
theorem dX12_says_58 : decode mX12_says.cd 58 = .ok (.iload_n 1, 1) := by decide +kernel
theorem dX12_says_59 : decode mX12_says.cd 59 = .ok (.imul, 1) := by decide +kernel
theorem dX12_says_60 : decode mX12_says.cd 60 = .ok (.iconst 1, 1) := by decide +kernel
theorem dX12_says_61 : decode mX12_says.cd 61 = .ok (.iadd, 1) := by decide +kernel
theorem dX12_says_62 : decode mX12_says.cd 62 = .ok (.iaload, 1) := by decide +kernel
theorem dX12_says_63 : decode mX12_says.cd 63 = .ok (.ishr, 1) := by decide +kernel
theorem dX12_says_64 : decode mX12_says.cd 64 = .ok (.iconst 1, 1) := by decide +kernel
theorem dX12_says_65 : decode mX12_says.cd 65 = .ok (.iand, 1) := by decide +kernel
theorem dX12_says_66 : decode mX12_says.cd 66 = .ok (.iconst 1, 1) := by decide +kernel
theorem dX12_says_67 : decode mX12_says.cd 67 = .ok (.if_icmp .ne 6, 3) := by decide +kernel
theorem dX12_says_70 : decode mX12_says.cd 70 = .ok (.goto 111, 3) := by decide +kernel
theorem dX12_says_73 : decode mX12_says.cd 73 = .ok (.aload_n 0, 1) := by decide +kernel
theorem dX12_says_74 : decode mX12_says.cd 74 = .ok (.getfield 17, 3) := by decide +kernel
theorem dX12_says_77 : decode mX12_says.cd 77 = .ok (.bipush 6, 2) := by decide +kernel
theorem dX12_says_79 : decode mX12_says.cd 79 = .ok (.iload_n 3, 1) := by decide +kernel
theorem dX12_says_80 : decode mX12_says.cd 80 = .ok (.imul, 1) := by decide +kernel
theorem dX12_says_81 : decode mX12_says.cd 81 = .ok (.iconst 3, 1) := by decide +kernel
theorem dX12_says_82 : decode mX12_says.cd 82 = .ok (.iadd, 1) := by decide +kernel
theorem dX12_says_83 : decode mX12_says.cd 83 = .ok (.iaload, 1) := by decide +kernel
theorem dX12_says_84 : decode mX12_says.cd 84 = .ok (.bipush 100, 2) := by decide +kernel
theorem dX12_says_86 : decode mX12_says.cd 86 = .ok (.aload_n 0, 1) := by decide +kernel
theorem dX12_says_87 : decode mX12_says.cd 87 = .ok (.getfield 322, 3) := by decide +kernel
theorem dX12_says_90 : decode mX12_says.cd 90 = .ok (.isub, 1) := by decide +kernel
theorem dX12_says_91 : decode mX12_says.cd 91 = .ok (.imul, 1) := by decide +kernel
theorem dX12_says_92 : decode mX12_says.cd 92 = .ok (.bipush 100, 2) := by decide +kernel
theorem dX12_says_94 : decode mX12_says.cd 94 = .ok (.idiv, 1) := by decide +kernel
theorem dX12_says_95 : decode mX12_says.cd 95 = .ok (.istore 4, 2) := by decide +kernel
theorem dX12_says_97 : decode mX12_says.cd 97 = .ok (.aload_n 0, 1) := by decide +kernel
theorem dX12_says_98 : decode mX12_says.cd 98 = .ok (.getfield 13, 3) := by decide +kernel
theorem dX12_says_101 : decode mX12_says.cd 101 = .ok (.iconst 2, 1) := by decide +kernel
theorem dX12_says_102 : decode mX12_says.cd 102 = .ok (.iload_n 1, 1) := by decide +kernel
theorem dX12_says_103 : decode mX12_says.cd 103 = .ok (.imul, 1) := by decide +kernel
theorem dX12_says_104 : decode mX12_says.cd 104 = .ok (.iaload, 1) := by decide +kernel
theorem dX12_says_105 : decode mX12_says.cd 105 = .ok (.istore 5, 2) := by decide +kernel
theorem dX12_says_107 : decode mX12_says.cd 107 = .ok (.iconst 1, 1) := by decide +kernel
theorem dX12_says_108 : decode mX12_says.cd 108 = .ok (.istore 6, 2) := by decide +kernel
theorem dX12_says_110 : decode mX12_says.cd 110 = .ok (.iload 6, 2) := by decide +kernel
theorem dX12_says_112 : decode mX12_says.cd 112 = .ok (.aload_n 0, 1) := by decide +kernel
theorem dX12_says_113 : decode mX12_says.cd 113 = .ok (.getfield 17, 3) := by decide +kernel
theorem dX12_says_116 : decode mX12_says.cd 116 = .ok (.bipush 6, 2) := by decide +kernel
theorem dX12_says_118 : decode mX12_says.cd 118 = .ok (.iload_n 3, 1) := by decide +kernel
theorem dX12_says_119 : decode mX12_says.cd 119 = .ok (.imul, 1) := by decide +kernel
theorem dX12_says_120 : decode mX12_says.cd 120 = .ok (.iconst 5, 1) := by decide +kernel
theorem dX12_says_121 : decode mX12_says.cd 121 = .ok (.iadd, 1) := by decide +kernel
theorem dX12_says_122 : decode mX12_says.cd 122 = .ok (.iaload, 1) := by decide +kernel
theorem dX12_says_123 : decode mX12_says.cd 123 = .ok (.if_icmp .gt 58, 3) := by decide +kernel
theorem dX12_says_126 : decode mX12_says.cd 126 = .ok (.iload 5, 2) := by decide +kernel
theorem dX12_says_128 : decode mX12_says.cd 128 = .ok (.iload 4, 2) := by decide +kernel
theorem dX12_says_130 : decode mX12_says.cd 130 = .ok (.imul, 1) := by decide +kernel
theorem dX12_says_131 : decode mX12_says.cd 131 = .ok (.bipush 100, 2) := by decide +kernel
theorem dX12_says_133 : decode mX12_says.cd 133 = .ok (.idiv, 1) := by decide +kernel
theorem dX12_says_134 : decode mX12_says.cd 134 = .ok (.istore 5, 2) := by decide +kernel
theorem dX12_says_136 : decode mX12_says.cd 136 = .ok (.aload_n 0, 1) := by decide +kernel
theorem dX12_says_137 : decode mX12_says.cd 137 = .ok (.iload_n 1, 1) := by decide +kernel
theorem dX12_says_138 : decode mX12_says.cd 138 = .ok (.iload_n 2, 1) := by decide +kernel
theorem dX12_says_139 : decode mX12_says.cd 139 = .ok (.iload 6, 2) := by decide +kernel
theorem dX12_says_141 : decode mX12_says.cd 141 = .ok (.aload_n 0, 1) := by decide +kernel
theorem dX12_says_142 : decode mX12_says.cd 142 = .ok (.getfield 17, 3) := by decide +kernel
theorem dX12_says_145 : decode mX12_says.cd 145 = .ok (.bipush 6, 2) := by decide +kernel
theorem dX12_says_147 : decode mX12_says.cd 147 = .ok (.iload_n 3, 1) := by decide +kernel
theorem dX12_says_148 : decode mX12_says.cd 148 = .ok (.imul, 1) := by decide +kernel
theorem dX12_says_149 : decode mX12_says.cd 149 = .ok (.aload_n 0, 1) := by decide +kernel
theorem dX12_says_150 : decode mX12_says.cd 150 = .ok (.getfield 312, 3) := by decide +kernel
theorem dX12_says_153 : decode mX12_says.cd 153 = .ok (.iadd, 1) := by decide +kernel
theorem dX12_says_154 : decode mX12_says.cd 154 = .ok (.iaload, 1) := by decide +kernel
theorem dX12_says_155 : decode mX12_says.cd 155 = .ok (.imul, 1) := by decide +kernel
theorem dX12_says_156 : decode mX12_says.cd 156 = .ok (.iadd, 1) := by decide +kernel
theorem dX12_says_157 : decode mX12_says.cd 157 = .ok (.iload 5, 2) := by decide +kernel
theorem dX12_says_159 : decode mX12_says.cd 159 = .ok (.aload_n 0, 1) := by decide +kernel
theorem dX12_says_160 : decode mX12_says.cd 160 = .ok (.getfield 29, 3) := by decide +kernel
theorem dX12_says_163 : decode mX12_says.cd 163 = .ok (.aload_n 0, 1) := by decide +kernel
theorem dX12_says_164 : decode mX12_says.cd 164 = .ok (.getfield 315, 3) := by decide +kernel
theorem dX12_says_167 : decode mX12_says.cd 167 = .ok (.iaload, 1) := by decide +kernel
theorem dX12_says_168 : decode mX12_says.cd 168 = .ok (.imul, 1) := by decide +kernel
theorem dX12_says_169 : decode mX12_says.cd 169 = .ok (.bipush 100, 2) := by decide +kernel
theorem dX12_says_171 : decode mX12_says.cd 171 = .ok (.idiv, 1) := by decide +kernel
theorem dX12_says_172 : decode mX12_says.cd 172 = .ok (.invokevirtual 318, 3) := by decide +kernel
theorem dX12_says_175 : decode mX12_says.cd 175 = .ok (.iinc 6 1, 3) := by decide +kernel
theorem dX12_says_178 : decode mX12_says.cd 178 = .ok (.goto (-68), 3) := by decide +kernel
theorem dX12_says_181 : decode mX12_says.cd 181 = .ok (.iinc 3 1, 3) := by decide +kernel
theorem dX12_says_184 : decode mX12_says.cd 184 = .ok (.goto (-158), 3) := by decide +kernel
theorem dX12_says_187 : decode mX12_says.cd 187 = .ok (.return_, 1) := by decide +kernel
theorem bX12_says_0 {fr M1 M2 b1 b2 : Nat} {Q : RS → Nat → AH → Prop} {h : AH} {l1 l2 : Int} {x3 x4 x5 x6 : AV} {R : AH → Prop}  (r1 : 0 ≤ h 98 48 ∧ h 98 48 < 3 := by omega) (r2 : 0 ≤ 2 * l1 ∧ 2 * l1 < 16 := by omega) (hS : Sp mX12_comes true (fr - 1) 0 0 [zR 98, zI l1, zI (l2 + (h 103 (h 98 48))), zI (h 99 (2 * l1))] 137 h (rV R)) (hf : 1 ≤ fr := by omega) (kk : ∀ h' : AH, R h' → Wp mX12_says (kR fr M1 M2) Q (b1, b2) 24 [zR 98, zI l1, zI l2, none, none, none, none] [] 137 h') : Wp mX12_says (kR fr M1 M2) Q (b1, b2) 0 [zR 98, zI l1, zI l2, x3, x4, x5, x6] [] 137 h := by
  refine s_fgt (fgt_c (fgt_c (fgt_c (fgt_n _ (fgt_n _ (fgt_n _ (fgt_n _ fgt_0))))))) ?_
  refine s_aload_n (x := 98) dX12_says_0 rfl ?_
  refine s_iload_n (x := l1) dX12_says_1 rfl ?_
  refine s_iload_n (x := l2) dX12_says_2 rfl ?_
  refine s_aload_n (x := 98) dX12_says_3 rfl ?_
  refine s_getFd (c := 98) (d := 103) dX12_says_4 lX12_26 e98 (Or.inl rfl) (by decide) (by decide) ?_
  refine s_aload_n (x := 98) dX12_says_7 rfl ?_
  refine s_get (c := 98) dX12_says_8 lX12_312 e98 (by decide) ?_
  refine s_iald (c := 103) (i := h 98 48) dX12_says_11 e103 r1.1 r1.2 ?_
  refine s_iadd dX12_says_12 ?_
  refine s_aload_n (x := 98) dX12_says_13 rfl ?_
  refine s_getFd (c := 98) (d := 99) dX12_says_14 lX12_13 e98 (Or.inl rfl) (by decide) (by decide) ?_
  refine s_iconst dX12_says_17 ?_
  refine s_iload_n (x := l1) dX12_says_18 rfl ?_
  refine s_imul dX12_says_19 ?_
  refine s_iald (c := 99) (i := 2 * l1) dX12_says_20 e99 r2.1 r2.2 ?_
  exact s_callV (as := [zI l1, zI (l2 + (h 103 (h 98 48))), zI (h 99 (2 * l1))]) (st := []) (o := 98) dX12_says_21 kX12_318 rfl ⟨12, 87, TX12, e98, rfl, by decide⟩ rfl rfl (Nat.le_of_ble_eq_true rfl) hS (show fr - 1 + 1 ≤ fr by omega) (Nat.zero_le _) (Nat.zero_le _) (fun v n' h' hP _ => by obtain ⟨e, rfl, hR⟩ := hP; cases e; exact kk h' hR) (fun E n' h' _ z => (rV_nt _ _ _ z).elim)
theorem bX12_says_24 {fr M1 M2 b1 b2 : Nat} {Q : RS → Nat → AH → Prop} {h : AH} {l1 l2 : Int} {x3 x4 x5 x6 : AV}   (kk : Wp mX12_says (kR fr M1 M2) Q (b1, b2) 26 [zR 98, zI l1, zI l2, zI 0, none, none, none] [] 137 h) : Wp mX12_says (kR fr M1 M2) Q (b1, b2) 24 [zR 98, zI l1, zI l2, x3, x4, x5, x6] [] 137 h := by
  refine s_fgt (fgt_c (fgt_c (fgt_c (fgt_n _ (fgt_n _ (fgt_n _ (fgt_n _ fgt_0))))))) ?_
  refine s_iconst dX12_says_24 ?_
  refine s_istore_n dX12_says_25 rfl (by decide) ?_
  exact kk
theorem bX12_says_26 {fr M1 M2 b1 b2 : Nat} {Q : RS → Nat → AH → Prop} {h : AH} {l1 l2 l3 : Int} {x4 x5 x6 : AV}  (r1 : -2147483648 ≤ l3 ∧ l3 < 2147483648 := by omega) (r2 : -2147483648 ≤ h 98 2 ∧ h 98 2 < 2147483648 := by omega) (kt : h 98 2 ≤ l3 → Wp mX12_says (kR fr M1 M2) Q (b1, b2) 187 [zR 98, zI l1, zI l2, zI l3, none, none, none] [] 137 h) (kf : l3 < h 98 2 → Wp mX12_says (kR fr M1 M2) Q (b1, b2) 34 [zR 98, zI l1, zI l2, zI l3, none, none, none] [] 137 h) : Wp mX12_says (kR fr M1 M2) Q (b1, b2) 26 [zR 98, zI l1, zI l2, zI l3, x4, x5, x6] [] 137 h := by
  refine s_fgt (fgt_c (fgt_c (fgt_c (fgt_c (fgt_n _ (fgt_n _ (fgt_n _ fgt_0))))))) ?_
  refine s_iload_n (x := l3) dX12_says_26 rfl ?_
  refine s_aload_n (x := 98) dX12_says_27 rfl ?_
  refine s_get (c := 98) dX12_says_28 lX12_270 e98 (by decide) ?_
  exact s_icmp_ge (tgt := 187) dX12_says_31 (by decide) r1 r2 kt kf
theorem bX12_says_34 {fr M1 M2 b1 b2 : Nat} {Q : RS → Nat → AH → Prop} {h : AH} {l1 l2 l3 : Int} {x4 x5 x6 : AV}  (r1 : -2147483648 ≤ l3 ∧ l3 < 2147483648 := by omega) (r2 : -2147483648 ≤ h 98 47 ∧ h 98 47 < 2147483648 := by omega) (kt : l3 = h 98 47 → Wp mX12_says (kR fr M1 M2) Q (b1, b2) 181 [zR 98, zI l1, zI l2, zI l3, none, none, none] [] 137 h) (kf : ¬ l3 = h 98 47 → Wp mX12_says (kR fr M1 M2) Q (b1, b2) 42 [zR 98, zI l1, zI l2, zI l3, none, none, none] [] 137 h) : Wp mX12_says (kR fr M1 M2) Q (b1, b2) 34 [zR 98, zI l1, zI l2, zI l3, x4, x5, x6] [] 137 h := by
  refine s_fgt (fgt_c (fgt_c (fgt_c (fgt_c (fgt_n _ (fgt_n _ (fgt_n _ fgt_0))))))) ?_
  refine s_iload_n (x := l3) dX12_says_34 rfl ?_
  refine s_aload_n (x := 98) dX12_says_35 rfl ?_
  refine s_get (c := 98) dX12_says_36 lX12_68 e98 (by decide) ?_
  exact s_icmp_eq (tgt := 181) dX12_says_39 (by decide) r1 r2 kt kf
theorem bX12_says_42 {fr M1 M2 b1 b2 : Nat} {Q : RS → Nat → AH → Prop} {h : AH} {l1 l2 l3 : Int} {x4 x5 x6 : AV}  (r1 : 0 ≤ (6 * l3) + 4 ∧ (6 * l3) + 4 < 36 := by omega) (r2 : 0 ≤ (2 * l1) + 1 ∧ (2 * l1) + 1 < 16 := by omega) (r3 : 0 ≤ h 99 ((2 * l1) + 1) ∧ h 99 ((2 * l1) + 1) < 32 := by omega) (r4 : -2147483648 ≤ h 100 ((6 * l3) + 4) ∧ h 100 ((6 * l3) + 4) < 2147483648 := by omega) (r5 : -2147483648 ≤ bAnd ((h 100 ((6 * l3) + 4)) / 2 ^ (h 99 ((2 * l1) + 1)).toNat) 1 ∧ bAnd ((h 100 ((6 * l3) + 4)) / 2 ^ (h 99 ((2 * l1) + 1)).toNat) 1 < 2147483648 := by omega) (kt : ¬ bAnd ((h 100 ((6 * l3) + 4)) / 2 ^ (h 99 ((2 * l1) + 1)).toNat) 1 = 1 → Wp mX12_says (kR fr M1 M2) Q (b1, b2) 73 [zR 98, zI l1, zI l2, zI l3, none, none, none] [] 137 h) (kf : bAnd ((h 100 ((6 * l3) + 4)) / 2 ^ (h 99 ((2 * l1) + 1)).toNat) 1 = 1 → Wp mX12_says (kR fr M1 M2) Q (b1, b2) 70 [zR 98, zI l1, zI l2, zI l3, none, none, none] [] 137 h) : Wp mX12_says (kR fr M1 M2) Q (b1, b2) 42 [zR 98, zI l1, zI l2, zI l3, x4, x5, x6] [] 137 h := by
  refine s_fgt (fgt_c (fgt_c (fgt_c (fgt_c (fgt_n _ (fgt_n _ (fgt_n _ fgt_0))))))) ?_
  refine s_aload_n (x := 98) dX12_says_42 rfl ?_
  refine s_getFd (c := 98) (d := 100) dX12_says_43 lX12_17 e98 (Or.inl rfl) (by decide) (by decide) ?_
  refine s_bipush dX12_says_46 (by decide) ?_
  refine s_iload_n (x := l3) dX12_says_48 rfl ?_
  refine s_imul dX12_says_49 ?_
  refine s_iconst dX12_says_50 ?_
  refine s_iadd dX12_says_51 ?_
  refine s_iald (c := 100) (i := (6 * l3) + 4) dX12_says_52 e100 r1.1 r1.2 ?_
  refine s_aload_n (x := 98) dX12_says_53 rfl ?_
  refine s_getFd (c := 98) (d := 99) dX12_says_54 lX12_13 e98 (Or.inl rfl) (by decide) (by decide) ?_
  refine s_iconst dX12_says_57 ?_
  refine s_iload_n (x := l1) dX12_says_58 rfl ?_
  refine s_imul dX12_says_59 ?_
  refine s_iconst dX12_says_60 ?_
  refine s_iadd dX12_says_61 ?_
  refine s_iald (c := 99) (i := (2 * l1) + 1) dX12_says_62 e99 r2.1 r2.2 ?_
  refine s_ishrN dX12_says_63 r4 r3.1 r3.2 ?_
  refine s_iconst dX12_says_64 ?_
  refine s_iand dX12_says_65 ?_
  refine s_iconst dX12_says_66 ?_
  exact s_icmp_ne (tgt := 73) dX12_says_67 (by decide) r5 ⟨by decide, by decide⟩ kt kf
theorem bX12_says_70 {fr M1 M2 b1 b2 : Nat} {Q : RS → Nat → AH → Prop} {h : AH} {l1 l2 l3 : Int} {x4 x5 x6 : AV}   (kk : Wp mX12_says (kR fr M1 M2) Q (b1, b2) 181 [zR 98, zI l1, zI l2, zI l3, none, none, none] [] 137 h) : Wp mX12_says (kR fr M1 M2) Q (b1, b2) 70 [zR 98, zI l1, zI l2, zI l3, x4, x5, x6] [] 137 h := by
  refine s_fgt (fgt_c (fgt_c (fgt_c (fgt_c (fgt_n _ (fgt_n _ (fgt_n _ fgt_0))))))) ?_
  exact s_goto (tgt := 181) dX12_says_70 (by decide) kk
theorem bX12_says_73 {fr M1 M2 b1 b2 : Nat} {Q : RS → Nat → AH → Prop} {h : AH} {l1 l2 l3 : Int} {x4 x5 x6 : AV}  (r1 : 0 ≤ (6 * l3) + 3 ∧ (6 * l3) + 3 < 36 := by omega) (r2 : 0 ≤ (h 100 ((6 * l3) + 3)) * (100 - (h 98 46)) ∧ (h 100 ((6 * l3) + 3)) * (100 - (h 98 46)) < 2147483648 := by omega) (r3 : 0 ≤ 2 * l1 ∧ 2 * l1 < 16 := by omega) (kk : Wp mX12_says (kR fr M1 M2) Q (b1, b2) 110 [zR 98, zI l1, zI l2, zI l3, zI (((h 100 ((6 * l3) + 3)) * (100 - (h 98 46))) / 100), zI (h 99 (2 * l1)), zI 1] [] 137 h) : Wp mX12_says (kR fr M1 M2) Q (b1, b2) 73 [zR 98, zI l1, zI l2, zI l3, x4, x5, x6] [] 137 h := by
  refine s_fgt (fgt_c (fgt_c (fgt_c (fgt_c (fgt_n _ (fgt_n _ (fgt_n _ fgt_0))))))) ?_
  refine s_aload_n (x := 98) dX12_says_73 rfl ?_
  refine s_getFd (c := 98) (d := 100) dX12_says_74 lX12_17 e98 (Or.inl rfl) (by decide) (by decide) ?_
  refine s_bipush dX12_says_77 (by decide) ?_
  refine s_iload_n (x := l3) dX12_says_79 rfl ?_
  refine s_imul dX12_says_80 ?_
  refine s_iconst dX12_says_81 ?_
  refine s_iadd dX12_says_82 ?_
  refine s_iald (c := 100) (i := (6 * l3) + 3) dX12_says_83 e100 r1.1 r1.2 ?_
  refine s_bipush dX12_says_84 (by decide) ?_
  refine s_aload_n (x := 98) dX12_says_86 rfl ?_
  refine s_get (c := 98) dX12_says_87 lX12_322 e98 (by decide) ?_
  refine s_isub dX12_says_90 ?_
  refine s_imul dX12_says_91 ?_
  refine s_bipush dX12_says_92 (by decide) ?_
  refine s_idivN dX12_says_94 r2.1 r2.2 (by decide) (by decide) ?_
  refine s_istore dX12_says_95 rfl (by decide) ?_
  refine s_aload_n (x := 98) dX12_says_97 rfl ?_
  refine s_getFd (c := 98) (d := 99) dX12_says_98 lX12_13 e98 (Or.inl rfl) (by decide) (by decide) ?_
  refine s_iconst dX12_says_101 ?_
  refine s_iload_n (x := l1) dX12_says_102 rfl ?_
  refine s_imul dX12_says_103 ?_
  refine s_iald (c := 99) (i := 2 * l1) dX12_says_104 e99 r3.1 r3.2 ?_
  refine s_istore dX12_says_105 rfl (by decide) ?_
  refine s_iconst dX12_says_107 ?_
  refine s_istore dX12_says_108 rfl (by decide) ?_
  exact kk
theorem bX12_says_110 {fr M1 M2 b1 b2 : Nat} {Q : RS → Nat → AH → Prop} {h : AH} {l1 l2 l3 l4 l5 l6 : Int}  (r1 : 0 ≤ (6 * l3) + 5 ∧ (6 * l3) + 5 < 36 := by omega) (r2 : -2147483648 ≤ l6 ∧ l6 < 2147483648 := by omega) (r3 : -2147483648 ≤ h 100 ((6 * l3) + 5) ∧ h 100 ((6 * l3) + 5) < 2147483648 := by omega) (kt : h 100 ((6 * l3) + 5) < l6 → Wp mX12_says (kR fr M1 M2) Q (b1, b2) 181 [zR 98, zI l1, zI l2, zI l3, zI l4, zI l5, zI l6] [] 137 h) (kf : l6 ≤ h 100 ((6 * l3) + 5) → Wp mX12_says (kR fr M1 M2) Q (b1, b2) 126 [zR 98, zI l1, zI l2, zI l3, zI l4, zI l5, zI l6] [] 137 h) : Wp mX12_says (kR fr M1 M2) Q (b1, b2) 110 [zR 98, zI l1, zI l2, zI l3, zI l4, zI l5, zI l6] [] 137 h := by
  refine s_iload (x := l6) dX12_says_110 rfl ?_
  refine s_aload_n (x := 98) dX12_says_112 rfl ?_
  refine s_getFd (c := 98) (d := 100) dX12_says_113 lX12_17 e98 (Or.inl rfl) (by decide) (by decide) ?_
  refine s_bipush dX12_says_116 (by decide) ?_
  refine s_iload_n (x := l3) dX12_says_118 rfl ?_
  refine s_imul dX12_says_119 ?_
  refine s_iconst dX12_says_120 ?_
  refine s_iadd dX12_says_121 ?_
  refine s_iald (c := 100) (i := (6 * l3) + 5) dX12_says_122 e100 r1.1 r1.2 ?_
  exact s_icmp_gt (tgt := 181) dX12_says_123 (by decide) r2 r3 kt kf
theorem bX12_says_126 {fr M1 M2 b1 b2 : Nat} {Q : RS → Nat → AH → Prop} {h : AH} {l1 l2 l3 l4 l5 l6 : Int} {R : AH → Prop}  (r1 : 0 ≤ l5 * l4 ∧ l5 * l4 < 2147483648 := by omega) (r2 : 0 ≤ (6 * l3) + (h 98 48) ∧ (6 * l3) + (h 98 48) < 36 := by omega) (r3 : 0 ≤ h 98 49 ∧ h 98 49 < 24 := by omega) (r4 : 0 ≤ ((l5 * l4) / 100) * (h 104 (h 98 49)) ∧ ((l5 * l4) / 100) * (h 104 (h 98 49)) < 2147483648 := by omega) (hS : Sp mX12_comes true (fr - 1) 0 0 [zR 98, zI l1, zI (l2 + (l6 * (h 100 ((6 * l3) + (h 98 48))))), zI ((((l5 * l4) / 100) * (h 104 (h 98 49))) / 100)] 137 h (rV R)) (hf : 1 ≤ fr := by omega) (kk : ∀ h' : AH, R h' → Wp mX12_says (kR fr M1 M2) Q (b1, b2) 175 [zR 98, zI l1, zI l2, zI l3, zI l4, zI ((l5 * l4) / 100), zI l6] [] 137 h') : Wp mX12_says (kR fr M1 M2) Q (b1, b2) 126 [zR 98, zI l1, zI l2, zI l3, zI l4, zI l5, zI l6] [] 137 h := by
  refine s_iload (x := l5) dX12_says_126 rfl ?_
  refine s_iload (x := l4) dX12_says_128 rfl ?_
  refine s_imul dX12_says_130 ?_
  refine s_bipush dX12_says_131 (by decide) ?_
  refine s_idivN dX12_says_133 r1.1 r1.2 (by decide) (by decide) ?_
  refine s_istore dX12_says_134 rfl (by decide) ?_
  refine s_aload_n (x := 98) dX12_says_136 rfl ?_
  refine s_iload_n (x := l1) dX12_says_137 rfl ?_
  refine s_iload_n (x := l2) dX12_says_138 rfl ?_
  refine s_iload (x := l6) dX12_says_139 rfl ?_
  refine s_aload_n (x := 98) dX12_says_141 rfl ?_
  refine s_getFd (c := 98) (d := 100) dX12_says_142 lX12_17 e98 (Or.inl rfl) (by decide) (by decide) ?_
  refine s_bipush dX12_says_145 (by decide) ?_
  refine s_iload_n (x := l3) dX12_says_147 rfl ?_
  refine s_imul dX12_says_148 ?_
  refine s_aload_n (x := 98) dX12_says_149 rfl ?_
  refine s_get (c := 98) dX12_says_150 lX12_312 e98 (by decide) ?_
  refine s_iadd dX12_says_153 ?_
  refine s_iald (c := 100) (i := (6 * l3) + (h 98 48)) dX12_says_154 e100 r2.1 r2.2 ?_
  refine s_imul dX12_says_155 ?_
  refine s_iadd dX12_says_156 ?_
  refine s_iload (x := (l5 * l4) / 100) dX12_says_157 rfl ?_
  refine s_aload_n (x := 98) dX12_says_159 rfl ?_
  refine s_getFd (c := 98) (d := 104) dX12_says_160 lX12_29 e98 (Or.inl rfl) (by decide) (by decide) ?_
  refine s_aload_n (x := 98) dX12_says_163 rfl ?_
  refine s_get (c := 98) dX12_says_164 lX12_315 e98 (by decide) ?_
  refine s_iald (c := 104) (i := h 98 49) dX12_says_167 e104 r3.1 r3.2 ?_
  refine s_imul dX12_says_168 ?_
  refine s_bipush dX12_says_169 (by decide) ?_
  refine s_idivN dX12_says_171 r4.1 r4.2 (by decide) (by decide) ?_
  exact s_callV (as := [zI l1, zI (l2 + (l6 * (h 100 ((6 * l3) + (h 98 48))))), zI ((((l5 * l4) / 100) * (h 104 (h 98 49))) / 100)]) (st := []) (o := 98) dX12_says_172 kX12_318 rfl ⟨12, 87, TX12, e98, rfl, by decide⟩ rfl rfl (Nat.le_of_ble_eq_true rfl) hS (show fr - 1 + 1 ≤ fr by omega) (Nat.zero_le _) (Nat.zero_le _) (fun v n' h' hP _ => by obtain ⟨e, rfl, hR⟩ := hP; cases e; exact kk h' hR) (fun E n' h' _ z => (rV_nt _ _ _ z).elim)
theorem bX12_says_175 {fr M1 M2 b1 b2 : Nat} {Q : RS → Nat → AH → Prop} {h : AH} {l1 l2 l3 l4 l5 l6 : Int}   (kk : Wp mX12_says (kR fr M1 M2) Q (b1, b2) 110 [zR 98, zI l1, zI l2, zI l3, zI l4, zI l5, zI (l6 + 1)] [] 137 h) : Wp mX12_says (kR fr M1 M2) Q (b1, b2) 175 [zR 98, zI l1, zI l2, zI l3, zI l4, zI l5, zI l6] [] 137 h := by
  refine s_iinc (x := l6) dX12_says_175 rfl rfl (by decide) ?_
  exact s_goto (tgt := 110) dX12_says_178 (by decide) kk
theorem bX12_says_181 {fr M1 M2 b1 b2 : Nat} {Q : RS → Nat → AH → Prop} {h : AH} {l1 l2 l3 : Int} {x4 x5 x6 : AV}   (kk : Wp mX12_says (kR fr M1 M2) Q (b1, b2) 26 [zR 98, zI l1, zI l2, zI (l3 + 1), none, none, none] [] 137 h) : Wp mX12_says (kR fr M1 M2) Q (b1, b2) 181 [zR 98, zI l1, zI l2, zI l3, x4, x5, x6] [] 137 h := by
  refine s_fgt (fgt_c (fgt_c (fgt_c (fgt_c (fgt_n _ (fgt_n _ (fgt_n _ fgt_0))))))) ?_
  refine s_iinc (x := l3) dX12_says_181 rfl rfl (by decide) ?_
  exact s_goto (tgt := 26) dX12_says_184 (by decide) kk
theorem bX12_says_187 {fr M1 M2 b1 b2 : Nat} {Q : RS → Nat → AH → Prop} {h : AH} {x0 x1 x2 x3 x4 x5 x6 : AV}   (hq : Q (.inl none) 137 h) : Wp mX12_says (kR fr M1 M2) Q (b1, b2) 187 [x0, x1, x2, x3, x4, x5, x6] [] 137 h := by
  refine s_fgt (fgt_n _ (fgt_n _ (fgt_n _ (fgt_n _ (fgt_n _ (fgt_n _ (fgt_n _ fgt_0))))))) ?_
  exact s_return dX12_says_187 rfl hq (fun z => by cases z)
theorem dX12_hears_0 : decode mX12_hears.cd 0 = .ok (.iconst 0, 1) := by decide +kernel
theorem dX12_hears_1 : decode mX12_hears.cd 1 = .ok (.istore_n 2, 1) := by decide +kernel
theorem dX12_hears_2 : decode mX12_hears.cd 2 = .ok (.iconst 1, 1) := by decide +kernel
theorem dX12_hears_3 : decode mX12_hears.cd 3 = .ok (.istore_n 3, 1) := by decide +kernel
theorem dX12_hears_4 : decode mX12_hears.cd 4 = .ok (.iload_n 3, 1) := by decide +kernel
theorem dX12_hears_5 : decode mX12_hears.cd 5 = .ok (.aload_n 0, 1) := by decide +kernel
theorem dX12_hears_6 : decode mX12_hears.cd 6 = .ok (.getfield 267, 3) := by decide +kernel
theorem dX12_hears_9 : decode mX12_hears.cd 9 = .ok (.if_icmp .ge 40, 3) := by decide +kernel
theorem dX12_hears_12 : decode mX12_hears.cd 12 = .ok (.aload_n 0, 1) := by decide +kernel
theorem dX12_hears_13 : decode mX12_hears.cd 13 = .ok (.getfield 65, 3) := by decide +kernel
theorem dX12_hears_16 : decode mX12_hears.cd 16 = .ok (.bipush 8, 2) := by decide +kernel
theorem dX12_hears_18 : decode mX12_hears.cd 18 = .ok (.iload_n 1, 1) := by decide +kernel
theorem dX12_hears_19 : decode mX12_hears.cd 19 = .ok (.imul, 1) := by decide +kernel
theorem dX12_hears_20 : decode mX12_hears.cd 20 = .ok (.iload_n 3, 1) := by decide +kernel
theorem dX12_hears_21 : decode mX12_hears.cd 21 = .ok (.iadd, 1) := by decide +kernel
theorem dX12_hears_22 : decode mX12_hears.cd 22 = .ok (.iaload, 1) := by decide +kernel
theorem dX12_hears_23 : decode mX12_hears.cd 23 = .ok (.aload_n 0, 1) := by decide +kernel
theorem dX12_hears_24 : decode mX12_hears.cd 24 = .ok (.getfield 65, 3) := by decide +kernel
theorem dX12_hears_27 : decode mX12_hears.cd 27 = .ok (.bipush 8, 2) := by decide +kernel
theorem dX12_hears_29 : decode mX12_hears.cd 29 = .ok (.iload_n 1, 1) := by decide +kernel
theorem dX12_hears_30 : decode mX12_hears.cd 30 = .ok (.imul, 1) := by decide +kernel
theorem dX12_hears_31 : decode mX12_hears.cd 31 = .ok (.iload_n 2, 1) := by decide +kernel
theorem dX12_hears_32 : decode mX12_hears.cd 32 = .ok (.iadd, 1) := by decide +kernel
theorem dX12_hears_33 : decode mX12_hears.cd 33 = .ok (.iaload, 1) := by decide +kernel
theorem dX12_hears_34 : decode mX12_hears.cd 34 = .ok (.if_icmp .le 7, 3) := by decide +kernel
theorem dX12_hears_37 : decode mX12_hears.cd 37 = .ok (.iload_n 3, 1) := by decide +kernel
theorem dX12_hears_38 : decode mX12_hears.cd 38 = .ok (.goto 4, 3) := by decide +kernel
theorem dX12_hears_41 : decode mX12_hears.cd 41 = .ok (.iload_n 2, 1) := by decide +kernel
theorem dX12_hears_42 : decode mX12_hears.cd 42 = .ok (.istore_n 2, 1) := by decide +kernel
theorem dX12_hears_43 : decode mX12_hears.cd 43 = .ok (.iinc 3 1, 3) := by decide +kernel
theorem dX12_hears_46 : decode mX12_hears.cd 46 = .ok (.goto (-42), 3) := by decide +kernel
theorem dX12_hears_49 : decode mX12_hears.cd 49 = .ok (.aload_n 0, 1) := by decide +kernel
theorem dX12_hears_50 : decode mX12_hears.cd 50 = .ok (.getfield 267, 3) := by decide +kernel
theorem dX12_hears_53 : decode mX12_hears.cd 53 = .ok (.ifCond .eq 21, 3) := by decide +kernel
theorem dX12_hears_56 : decode mX12_hears.cd 56 = .ok (.aload_n 0, 1) := by decide +kernel
theorem dX12_hears_57 : decode mX12_hears.cd 57 = .ok (.getfield 65, 3) := by decide +kernel
theorem dX12_hears_60 : decode mX12_hears.cd 60 = .ok (.bipush 8, 2) := by decide +kernel
theorem dX12_hears_62 : decode mX12_hears.cd 62 = .ok (.iload_n 1, 1) := by decide +kernel
theorem dX12_hears_63 : decode mX12_hears.cd 63 = .ok (.imul, 1) := by decide +kernel
theorem dX12_hears_64 : decode mX12_hears.cd 64 = .ok (.iload_n 2, 1) := by decide +kernel
theorem dX12_hears_65 : decode mX12_hears.cd 65 = .ok (.iadd, 1) := by decide +kernel
theorem dX12_hears_66 : decode mX12_hears.cd 66 = .ok (.iaload, 1) := by decide +kernel
theorem dX12_hears_67 : decode mX12_hears.cd 67 = .ok (.aload_n 0, 1) := by decide +kernel
theorem dX12_hears_68 : decode mX12_hears.cd 68 = .ok (.getfield 7, 3) := by decide +kernel
theorem dX12_hears_71 : decode mX12_hears.cd 71 = .ok (.if_icmp .ge 5, 3) := by decide +kernel
theorem dX12_hears_74 : decode mX12_hears.cd 74 = .ok (.iconst (-1), 1) := by decide +kernel
theorem dX12_hears_75 : decode mX12_hears.cd 75 = .ok (.ireturn, 1) := by decide +kernel
theorem dX12_hears_76 : decode mX12_hears.cd 76 = .ok (.iload_n 1, 1) := by decide +kernel
theorem dX12_hears_77 : decode mX12_hears.cd 77 = .ok (.aload_n 0, 1) := by decide +kernel
theorem dX12_hears_78 : decode mX12_hears.cd 78 = .ok (.getfield 279, 3) := by decide +kernel
theorem dX12_hears_81 : decode mX12_hears.cd 81 = .ok (.if_icmp .ge 7, 3) := by decide +kernel
theorem dX12_hears_84 : decode mX12_hears.cd 84 = .ok (.iconst 0, 1) := by decide +kernel
theorem dX12_hears_85 : decode mX12_hears.cd 85 = .ok (.goto 9, 3) := by decide +kernel
theorem dX12_hears_88 : decode mX12_hears.cd 88 = .ok (.iload_n 1, 1) := by decide +kernel
theorem dX12_hears_89 : decode mX12_hears.cd 89 = .ok (.aload_n 0, 1) := by decide +kernel
theorem dX12_hears_90 : decode mX12_hears.cd 90 = .ok (.getfield 279, 3) := by decide +kernel
theorem dX12_hears_93 : decode mX12_hears.cd 93 = .ok (.isub, 1) := by decide +kernel
theorem dX12_hears_94 : decode mX12_hears.cd 94 = .ok (.istore_n 3, 1) := by decide +kernel
theorem dX12_hears_95 : decode mX12_hears.cd 95 = .ok (.iload_n 3, 1) := by decide +kernel
theorem dX12_hears_96 : decode mX12_hears.cd 96 = .ok (.iload_n 1, 1) := by decide +kernel
theorem dX12_hears_97 : decode mX12_hears.cd 97 = .ok (.if_icmp .ge 60, 3) := by decide +kernel
theorem dX12_hears_100 : decode mX12_hears.cd 100 = .ok (.iconst 0, 1) := by decide +kernel
theorem dX12_hears_101 : decode mX12_hears.cd 101 = .ok (.istore 4, 2) := by decide +kernel
theorem dX12_hears_103 : decode mX12_hears.cd 103 = .ok (.iload 4, 2) := by decide +kernel
theorem dX12_hears_105 : decode mX12_hears.cd 105 = .ok (.aload_n 0, 1) := by decide +kernel
theorem dX12_hears_106 : decode mX12_hears.cd 106 = .ok (.getfield 267, 3) := by decide +kernel
theorem dX12_hears_109 : decode mX12_hears.cd 109 = .ok (.if_icmp .ge 42, 3) := by decide +kernel
theorem dX12_hears_112 : decode mX12_hears.cd 112 = .ok (.aload_n 0, 1) := by decide +kernel
theorem dX12_hears_113 : decode mX12_hears.cd 113 = .ok (.getfield 65, 3) := by decide +kernel
theorem dX12_hears_116 : decode mX12_hears.cd 116 = .ok (.bipush 8, 2) := by decide +kernel
theorem dX12_hears_118 : decode mX12_hears.cd 118 = .ok (.iload_n 3, 1) := by decide +kernel
theorem dX12_hears_119 : decode mX12_hears.cd 119 = .ok (.imul, 1) := by decide +kernel
theorem dX12_hears_120 : decode mX12_hears.cd 120 = .ok (.iload 4, 2) := by decide +kernel
theorem dX12_hears_122 : decode mX12_hears.cd 122 = .ok (.iadd, 1) := by decide +kernel
theorem dX12_hears_123 : decode mX12_hears.cd 123 = .ok (.iaload, 1) := by decide +kernel
theorem dX12_hears_124 : decode mX12_hears.cd 124 = .ok (.aload_n 0, 1) := by decide +kernel
theorem dX12_hears_125 : decode mX12_hears.cd 125 = .ok (.getfield 65, 3) := by decide +kernel
theorem dX12_hears_128 : decode mX12_hears.cd 128 = .ok (.bipush 8, 2) := by decide +kernel
theorem dX12_hears_130 : decode mX12_hears.cd 130 = .ok (.iload_n 1, 1) := by decide +kernel
theorem dX12_hears_131 : decode mX12_hears.cd 131 = .ok (.imul, 1) := by decide +kernel
theorem dX12_hears_132 : decode mX12_hears.cd 132 = .ok (.iload_n 2, 1) := by decide +kernel
theorem dX12_hears_133 : decode mX12_hears.cd 133 = .ok (.iadd, 1) := by decide +kernel
theorem dX12_hears_134 : decode mX12_hears.cd 134 = .ok (.iaload, 1) := by decide +kernel
theorem dX12_hears_135 : decode mX12_hears.cd 135 = .ok (.aload_n 0, 1) := by decide +kernel
theorem dX12_hears_136 : decode mX12_hears.cd 136 = .ok (.getfield 282, 3) := by decide +kernel
theorem dX12_hears_139 : decode mX12_hears.cd 139 = .ok (.iadd, 1) := by decide +kernel
theorem dX12_hears_140 : decode mX12_hears.cd 140 = .ok (.if_icmp .le 5, 3) := by decide +kernel
theorem dX12_hears_143 : decode mX12_hears.cd 143 = .ok (.iconst (-1), 1) := by decide +kernel
theorem dX12_hears_144 : decode mX12_hears.cd 144 = .ok (.ireturn, 1) := by decide +kernel
theorem dX12_hears_145 : decode mX12_hears.cd 145 = .ok (.iinc 4 1, 3) := by decide +kernel
theorem dX12_hears_148 : decode mX12_hears.cd 148 = .ok (.goto (-45), 3) := by decide +kernel
theorem dX12_hears_151 : decode mX12_hears.cd 151 = .ok (.iinc 3 1, 3) := by decide +kernel
theorem dX12_hears_154 : decode mX12_hears.cd 154 = .ok (.goto (-59), 3) := by decide +kernel
theorem dX12_hears_157 : decode mX12_hears.cd 157 = .ok (.iload_n 2, 1) := by decide +kernel
theorem dX12_hears_158 : decode mX12_hears.cd 158 = .ok (.ireturn, 1) := by decide +kernel
theorem bX12_hears_0 {fr M1 M2 b1 b2 : Nat} {Q : RS → Nat → AH → Prop} {h : AH} {l1 : Int} {x2 x3 x4 : AV}   (kk : Wp mX12_hears (kR fr M1 M2) Q (b1, b2) 4 [zR 98, zI l1, zI 0, zI 1, none] [] 137 h) : Wp mX12_hears (kR fr M1 M2) Q (b1, b2) 0 [zR 98, zI l1, x2, x3, x4] [] 137 h := by
  refine s_fgt (fgt_c (fgt_c (fgt_n _ (fgt_n _ (fgt_n _ fgt_0))))) ?_
  refine s_iconst dX12_hears_0 ?_
  refine s_istore_n dX12_hears_1 rfl (by decide) ?_
  refine s_iconst dX12_hears_2 ?_
  refine s_istore_n dX12_hears_3 rfl (by decide) ?_
  exact kk
theorem bX12_hears_4 {fr M1 M2 b1 b2 : Nat} {Q : RS → Nat → AH → Prop} {h : AH} {l1 l2 l3 : Int} {x4 : AV}  (r1 : -2147483648 ≤ l3 ∧ l3 < 2147483648 := by omega) (r2 : -2147483648 ≤ h 98 1 ∧ h 98 1 < 2147483648 := by omega) (kt : h 98 1 ≤ l3 → Wp mX12_hears (kR fr M1 M2) Q (b1, b2) 49 [zR 98, zI l1, zI l2, zI l3, none] [] 137 h) (kf : l3 < h 98 1 → Wp mX12_hears (kR fr M1 M2) Q (b1, b2) 12 [zR 98, zI l1, zI l2, zI l3, none] [] 137 h) : Wp mX12_hears (kR fr M1 M2) Q (b1, b2) 4 [zR 98, zI l1, zI l2, zI l3, x4] [] 137 h := by
  refine s_fgt (fgt_c (fgt_c (fgt_c (fgt_c (fgt_n _ fgt_0))))) ?_
  refine s_iload_n (x := l3) dX12_hears_4 rfl ?_
  refine s_aload_n (x := 98) dX12_hears_5 rfl ?_
  refine s_get (c := 98) dX12_hears_6 lX12_267 e98 (by decide) ?_
  exact s_icmp_ge (tgt := 49) dX12_hears_9 (by decide) r1 r2 kt kf
theorem bX12_hears_12 {fr M1 M2 b1 b2 : Nat} {Q : RS → Nat → AH → Prop} {h : AH} {l1 l2 l3 : Int} {x4 : AV}  (r1 : 0 ≤ (8 * l1) + l3 ∧ (8 * l1) + l3 < 3200 := by omega) (r2 : 0 ≤ (8 * l1) + l2 ∧ (8 * l1) + l2 < 3200 := by omega) (r3 : -2147483648 ≤ h 115 ((8 * l1) + l3) ∧ h 115 ((8 * l1) + l3) < 2147483648 := by omega) (r4 : -2147483648 ≤ h 115 ((8 * l1) + l2) ∧ h 115 ((8 * l1) + l2) < 2147483648 := by omega) (kt : h 115 ((8 * l1) + l3) ≤ h 115 ((8 * l1) + l2) → Wp mX12_hears (kR fr M1 M2) Q (b1, b2) 41 [zR 98, zI l1, zI l2, zI l3, none] [] 137 h) (kf : h 115 ((8 * l1) + l2) < h 115 ((8 * l1) + l3) → Wp mX12_hears (kR fr M1 M2) Q (b1, b2) 37 [zR 98, zI l1, zI l2, zI l3, none] [] 137 h) : Wp mX12_hears (kR fr M1 M2) Q (b1, b2) 12 [zR 98, zI l1, zI l2, zI l3, x4] [] 137 h := by
  refine s_fgt (fgt_c (fgt_c (fgt_c (fgt_c (fgt_n _ fgt_0))))) ?_
  refine s_aload_n (x := 98) dX12_hears_12 rfl ?_
  refine s_getFd (c := 98) (d := 115) dX12_hears_13 lX12_65 e98 (Or.inl rfl) (by decide) (by decide) ?_
  refine s_bipush dX12_hears_16 (by decide) ?_
  refine s_iload_n (x := l1) dX12_hears_18 rfl ?_
  refine s_imul dX12_hears_19 ?_
  refine s_iload_n (x := l3) dX12_hears_20 rfl ?_
  refine s_iadd dX12_hears_21 ?_
  refine s_iald (c := 115) (i := (8 * l1) + l3) dX12_hears_22 e115 r1.1 r1.2 ?_
  refine s_aload_n (x := 98) dX12_hears_23 rfl ?_
  refine s_getFd (c := 98) (d := 115) dX12_hears_24 lX12_65 e98 (Or.inl rfl) (by decide) (by decide) ?_
  refine s_bipush dX12_hears_27 (by decide) ?_
  refine s_iload_n (x := l1) dX12_hears_29 rfl ?_
  refine s_imul dX12_hears_30 ?_
  refine s_iload_n (x := l2) dX12_hears_31 rfl ?_
  refine s_iadd dX12_hears_32 ?_
  refine s_iald (c := 115) (i := (8 * l1) + l2) dX12_hears_33 e115 r2.1 r2.2 ?_
  exact s_icmp_le (tgt := 41) dX12_hears_34 (by decide) r3 r4 kt kf
theorem bX12_hears_37 {fr M1 M2 b1 b2 : Nat} {Q : RS → Nat → AH → Prop} {h : AH} {l1 l3 : Int} {x2 x4 : AV}   (kk : Wp mX12_hears (kR fr M1 M2) Q (b1, b2) 42 [zR 98, zI l1, none, zI l3, none] [zI l3] 137 h) : Wp mX12_hears (kR fr M1 M2) Q (b1, b2) 37 [zR 98, zI l1, x2, zI l3, x4] [] 137 h := by
  refine s_fgt (fgt_c (fgt_c (fgt_n _ (fgt_c (fgt_n _ fgt_0))))) ?_
  refine s_iload_n (x := l3) dX12_hears_37 rfl ?_
  exact s_goto (tgt := 42) dX12_hears_38 (by decide) kk
theorem bX12_hears_41 {fr M1 M2 b1 b2 : Nat} {Q : RS → Nat → AH → Prop} {h : AH} {l1 l2 l3 : Int} {x4 : AV}   (kk : Wp mX12_hears (kR fr M1 M2) Q (b1, b2) 42 [zR 98, zI l1, zI l2, zI l3, none] [zI l2] 137 h) : Wp mX12_hears (kR fr M1 M2) Q (b1, b2) 41 [zR 98, zI l1, zI l2, zI l3, x4] [] 137 h := by
  refine s_fgt (fgt_c (fgt_c (fgt_c (fgt_c (fgt_n _ fgt_0))))) ?_
  refine s_iload_n (x := l2) dX12_hears_41 rfl ?_
  exact kk
theorem bX12_hears_42 {fr M1 M2 b1 b2 : Nat} {Q : RS → Nat → AH → Prop} {h : AH} {l1 l3 s0 : Int} {x2 x4 : AV}   (kk : Wp mX12_hears (kR fr M1 M2) Q (b1, b2) 4 [zR 98, zI l1, zI s0, zI (l3 + 1), none] [] 137 h) : Wp mX12_hears (kR fr M1 M2) Q (b1, b2) 42 [zR 98, zI l1, x2, zI l3, x4] [zI s0] 137 h := by
  refine s_fgt (fgt_c (fgt_c (fgt_n _ (fgt_c (fgt_n _ fgt_0))))) ?_
  refine s_istore_n dX12_hears_42 rfl (by decide) ?_
  refine s_iinc (x := l3) dX12_hears_43 rfl rfl (by decide) ?_
  exact s_goto (tgt := 4) dX12_hears_46 (by decide) kk
theorem bX12_hears_49 {fr M1 M2 b1 b2 : Nat} {Q : RS → Nat → AH → Prop} {h : AH} {l1 l2 : Int} {x3 x4 : AV}  (r1 : -2147483648 ≤ h 98 1 ∧ h 98 1 < 2147483648 := by omega) (kt : h 98 1 = 0 → Wp mX12_hears (kR fr M1 M2) Q (b1, b2) 74 [zR 98, zI l1, zI l2, none, none] [] 137 h) (kf : ¬ h 98 1 = 0 → Wp mX12_hears (kR fr M1 M2) Q (b1, b2) 56 [zR 98, zI l1, zI l2, none, none] [] 137 h) : Wp mX12_hears (kR fr M1 M2) Q (b1, b2) 49 [zR 98, zI l1, zI l2, x3, x4] [] 137 h := by
  refine s_fgt (fgt_c (fgt_c (fgt_c (fgt_n _ (fgt_n _ fgt_0))))) ?_
  refine s_aload_n (x := 98) dX12_hears_49 rfl ?_
  refine s_get (c := 98) dX12_hears_50 lX12_267 e98 (by decide) ?_
  exact s_if_eq (tgt := 74) dX12_hears_53 (by decide) r1 kt kf
theorem bX12_hears_56 {fr M1 M2 b1 b2 : Nat} {Q : RS → Nat → AH → Prop} {h : AH} {l1 l2 : Int} {x3 x4 : AV}  (r1 : 0 ≤ (8 * l1) + l2 ∧ (8 * l1) + l2 < 3200 := by omega) (r2 : -2147483648 ≤ h 115 ((8 * l1) + l2) ∧ h 115 ((8 * l1) + l2) < 2147483648 := by omega) (r3 : -2147483648 ≤ h 98 5 ∧ h 98 5 < 2147483648 := by omega) (kt : h 98 5 ≤ h 115 ((8 * l1) + l2) → Wp mX12_hears (kR fr M1 M2) Q (b1, b2) 76 [zR 98, zI l1, zI l2, none, none] [] 137 h) (kf : h 115 ((8 * l1) + l2) < h 98 5 → Wp mX12_hears (kR fr M1 M2) Q (b1, b2) 74 [zR 98, zI l1, zI l2, none, none] [] 137 h) : Wp mX12_hears (kR fr M1 M2) Q (b1, b2) 56 [zR 98, zI l1, zI l2, x3, x4] [] 137 h := by
  refine s_fgt (fgt_c (fgt_c (fgt_c (fgt_n _ (fgt_n _ fgt_0))))) ?_
  refine s_aload_n (x := 98) dX12_hears_56 rfl ?_
  refine s_getFd (c := 98) (d := 115) dX12_hears_57 lX12_65 e98 (Or.inl rfl) (by decide) (by decide) ?_
  refine s_bipush dX12_hears_60 (by decide) ?_
  refine s_iload_n (x := l1) dX12_hears_62 rfl ?_
  refine s_imul dX12_hears_63 ?_
  refine s_iload_n (x := l2) dX12_hears_64 rfl ?_
  refine s_iadd dX12_hears_65 ?_
  refine s_iald (c := 115) (i := (8 * l1) + l2) dX12_hears_66 e115 r1.1 r1.2 ?_
  refine s_aload_n (x := 98) dX12_hears_67 rfl ?_
  refine s_get (c := 98) dX12_hears_68 lX12_7 e98 (by decide) ?_
  exact s_icmp_ge (tgt := 76) dX12_hears_71 (by decide) r2 r3 kt kf
theorem bX12_hears_74 {fr M1 M2 b1 b2 : Nat} {Q : RS → Nat → AH → Prop} {h : AH} {x0 x1 x2 x3 x4 : AV}   (hq : Q (.inl (some (zI (-1)))) 137 h) : Wp mX12_hears (kR fr M1 M2) Q (b1, b2) 74 [x0, x1, x2, x3, x4] [] 137 h := by
  refine s_fgt (fgt_n _ (fgt_n _ (fgt_n _ (fgt_n _ (fgt_n _ fgt_0))))) ?_
  refine s_iconst dX12_hears_74 ?_
  exact s_ireturn dX12_hears_75 ⟨.int, rfl, rfl⟩ hq (fun z => by cases z)
theorem bX12_hears_76 {fr M1 M2 b1 b2 : Nat} {Q : RS → Nat → AH → Prop} {h : AH} {l1 l2 : Int} {x3 x4 : AV}  (r1 : -2147483648 ≤ l1 ∧ l1 < 2147483648 := by omega) (r2 : -2147483648 ≤ h 98 6 ∧ h 98 6 < 2147483648 := by omega) (kt : h 98 6 ≤ l1 → Wp mX12_hears (kR fr M1 M2) Q (b1, b2) 88 [zR 98, zI l1, zI l2, none, none] [] 137 h) (kf : l1 < h 98 6 → Wp mX12_hears (kR fr M1 M2) Q (b1, b2) 84 [zR 98, zI l1, zI l2, none, none] [] 137 h) : Wp mX12_hears (kR fr M1 M2) Q (b1, b2) 76 [zR 98, zI l1, zI l2, x3, x4] [] 137 h := by
  refine s_fgt (fgt_c (fgt_c (fgt_c (fgt_n _ (fgt_n _ fgt_0))))) ?_
  refine s_iload_n (x := l1) dX12_hears_76 rfl ?_
  refine s_aload_n (x := 98) dX12_hears_77 rfl ?_
  refine s_get (c := 98) dX12_hears_78 lX12_279 e98 (by decide) ?_
  exact s_icmp_ge (tgt := 88) dX12_hears_81 (by decide) r1 r2 kt kf
theorem bX12_hears_84 {fr M1 M2 b1 b2 : Nat} {Q : RS → Nat → AH → Prop} {h : AH} {l1 l2 : Int} {x3 x4 : AV}   (kk : Wp mX12_hears (kR fr M1 M2) Q (b1, b2) 94 [zR 98, zI l1, zI l2, none, none] [zI 0] 137 h) : Wp mX12_hears (kR fr M1 M2) Q (b1, b2) 84 [zR 98, zI l1, zI l2, x3, x4] [] 137 h := by
  refine s_fgt (fgt_c (fgt_c (fgt_c (fgt_n _ (fgt_n _ fgt_0))))) ?_
  refine s_iconst dX12_hears_84 ?_
  exact s_goto (tgt := 94) dX12_hears_85 (by decide) kk
theorem bX12_hears_88 {fr M1 M2 b1 b2 : Nat} {Q : RS → Nat → AH → Prop} {h : AH} {l1 l2 : Int} {x3 x4 : AV}   (kk : Wp mX12_hears (kR fr M1 M2) Q (b1, b2) 94 [zR 98, zI l1, zI l2, none, none] [zI (l1 - (h 98 6))] 137 h) : Wp mX12_hears (kR fr M1 M2) Q (b1, b2) 88 [zR 98, zI l1, zI l2, x3, x4] [] 137 h := by
  refine s_fgt (fgt_c (fgt_c (fgt_c (fgt_n _ (fgt_n _ fgt_0))))) ?_
  refine s_iload_n (x := l1) dX12_hears_88 rfl ?_
  refine s_aload_n (x := 98) dX12_hears_89 rfl ?_
  refine s_get (c := 98) dX12_hears_90 lX12_279 e98 (by decide) ?_
  refine s_isub dX12_hears_93 ?_
  exact kk
theorem bX12_hears_94 {fr M1 M2 b1 b2 : Nat} {Q : RS → Nat → AH → Prop} {h : AH} {l1 l2 s0 : Int} {x3 x4 : AV}   (kk : Wp mX12_hears (kR fr M1 M2) Q (b1, b2) 95 [zR 98, zI l1, zI l2, zI s0, none] [] 137 h) : Wp mX12_hears (kR fr M1 M2) Q (b1, b2) 94 [zR 98, zI l1, zI l2, x3, x4] [zI s0] 137 h := by
  refine s_fgt (fgt_c (fgt_c (fgt_c (fgt_n _ (fgt_n _ fgt_0))))) ?_
  refine s_istore_n dX12_hears_94 rfl (by decide) ?_
  exact kk
theorem bX12_hears_95 {fr M1 M2 b1 b2 : Nat} {Q : RS → Nat → AH → Prop} {h : AH} {l1 l2 l3 : Int} {x4 : AV}  (r1 : -2147483648 ≤ l3 ∧ l3 < 2147483648 := by omega) (r2 : -2147483648 ≤ l1 ∧ l1 < 2147483648 := by omega) (kt : l1 ≤ l3 → Wp mX12_hears (kR fr M1 M2) Q (b1, b2) 157 [zR 98, zI l1, zI l2, zI l3, none] [] 137 h) (kf : l3 < l1 → Wp mX12_hears (kR fr M1 M2) Q (b1, b2) 100 [zR 98, zI l1, zI l2, zI l3, none] [] 137 h) : Wp mX12_hears (kR fr M1 M2) Q (b1, b2) 95 [zR 98, zI l1, zI l2, zI l3, x4] [] 137 h := by
  refine s_fgt (fgt_c (fgt_c (fgt_c (fgt_c (fgt_n _ fgt_0))))) ?_
  refine s_iload_n (x := l3) dX12_hears_95 rfl ?_
  refine s_iload_n (x := l1) dX12_hears_96 rfl ?_
  exact s_icmp_ge (tgt := 157) dX12_hears_97 (by decide) r1 r2 kt kf
theorem bX12_hears_100 {fr M1 M2 b1 b2 : Nat} {Q : RS → Nat → AH → Prop} {h : AH} {l1 l2 l3 : Int} {x4 : AV}   (kk : Wp mX12_hears (kR fr M1 M2) Q (b1, b2) 103 [zR 98, zI l1, zI l2, zI l3, zI 0] [] 137 h) : Wp mX12_hears (kR fr M1 M2) Q (b1, b2) 100 [zR 98, zI l1, zI l2, zI l3, x4] [] 137 h := by
  refine s_fgt (fgt_c (fgt_c (fgt_c (fgt_c (fgt_n _ fgt_0))))) ?_
  refine s_iconst dX12_hears_100 ?_
  refine s_istore dX12_hears_101 rfl (by decide) ?_
  exact kk
theorem bX12_hears_103 {fr M1 M2 b1 b2 : Nat} {Q : RS → Nat → AH → Prop} {h : AH} {l1 l2 l3 l4 : Int}  (r1 : -2147483648 ≤ l4 ∧ l4 < 2147483648 := by omega) (r2 : -2147483648 ≤ h 98 1 ∧ h 98 1 < 2147483648 := by omega) (kt : h 98 1 ≤ l4 → Wp mX12_hears (kR fr M1 M2) Q (b1, b2) 151 [zR 98, zI l1, zI l2, zI l3, zI l4] [] 137 h) (kf : l4 < h 98 1 → Wp mX12_hears (kR fr M1 M2) Q (b1, b2) 112 [zR 98, zI l1, zI l2, zI l3, zI l4] [] 137 h) : Wp mX12_hears (kR fr M1 M2) Q (b1, b2) 103 [zR 98, zI l1, zI l2, zI l3, zI l4] [] 137 h := by
  refine s_iload (x := l4) dX12_hears_103 rfl ?_
  refine s_aload_n (x := 98) dX12_hears_105 rfl ?_
  refine s_get (c := 98) dX12_hears_106 lX12_267 e98 (by decide) ?_
  exact s_icmp_ge (tgt := 151) dX12_hears_109 (by decide) r1 r2 kt kf
theorem bX12_hears_112 {fr M1 M2 b1 b2 : Nat} {Q : RS → Nat → AH → Prop} {h : AH} {l1 l2 l3 l4 : Int}  (r1 : 0 ≤ (8 * l3) + l4 ∧ (8 * l3) + l4 < 3200 := by omega) (r2 : 0 ≤ (8 * l1) + l2 ∧ (8 * l1) + l2 < 3200 := by omega) (r3 : -2147483648 ≤ h 115 ((8 * l3) + l4) ∧ h 115 ((8 * l3) + l4) < 2147483648 := by omega) (r4 : -2147483648 ≤ (h 115 ((8 * l1) + l2)) + (h 98 7) ∧ (h 115 ((8 * l1) + l2)) + (h 98 7) < 2147483648 := by omega) (kt : h 115 ((8 * l3) + l4) ≤ (h 115 ((8 * l1) + l2)) + (h 98 7) → Wp mX12_hears (kR fr M1 M2) Q (b1, b2) 145 [zR 98, zI l1, zI l2, zI l3, zI l4] [] 137 h) (kf : (h 115 ((8 * l1) + l2)) + (h 98 7) < h 115 ((8 * l3) + l4) → Wp mX12_hears (kR fr M1 M2) Q (b1, b2) 143 [zR 98, zI l1, zI l2, zI l3, zI l4] [] 137 h) : Wp mX12_hears (kR fr M1 M2) Q (b1, b2) 112 [zR 98, zI l1, zI l2, zI l3, zI l4] [] 137 h := by
  refine s_aload_n (x := 98) dX12_hears_112 rfl ?_
  refine s_getFd (c := 98) (d := 115) dX12_hears_113 lX12_65 e98 (Or.inl rfl) (by decide) (by decide) ?_
  refine s_bipush dX12_hears_116 (by decide) ?_
  refine s_iload_n (x := l3) dX12_hears_118 rfl ?_
  refine s_imul dX12_hears_119 ?_
  refine s_iload (x := l4) dX12_hears_120 rfl ?_
  refine s_iadd dX12_hears_122 ?_
  refine s_iald (c := 115) (i := (8 * l3) + l4) dX12_hears_123 e115 r1.1 r1.2 ?_
  refine s_aload_n (x := 98) dX12_hears_124 rfl ?_
  refine s_getFd (c := 98) (d := 115) dX12_hears_125 lX12_65 e98 (Or.inl rfl) (by decide) (by decide) ?_
  refine s_bipush dX12_hears_128 (by decide) ?_
  refine s_iload_n (x := l1) dX12_hears_130 rfl ?_
  refine s_imul dX12_hears_131 ?_
  refine s_iload_n (x := l2) dX12_hears_132 rfl ?_
  refine s_iadd dX12_hears_133 ?_
  refine s_iald (c := 115) (i := (8 * l1) + l2) dX12_hears_134 e115 r2.1 r2.2 ?_
  refine s_aload_n (x := 98) dX12_hears_135 rfl ?_
  refine s_get (c := 98) dX12_hears_136 lX12_282 e98 (by decide) ?_
  refine s_iadd dX12_hears_139 ?_
  exact s_icmp_le (tgt := 145) dX12_hears_140 (by decide) r3 r4 kt kf
theorem bX12_hears_143 {fr M1 M2 b1 b2 : Nat} {Q : RS → Nat → AH → Prop} {h : AH} {x0 x1 x2 x3 x4 : AV}   (hq : Q (.inl (some (zI (-1)))) 137 h) : Wp mX12_hears (kR fr M1 M2) Q (b1, b2) 143 [x0, x1, x2, x3, x4] [] 137 h := by
  refine s_fgt (fgt_n _ (fgt_n _ (fgt_n _ (fgt_n _ (fgt_n _ fgt_0))))) ?_
  refine s_iconst dX12_hears_143 ?_
  exact s_ireturn dX12_hears_144 ⟨.int, rfl, rfl⟩ hq (fun z => by cases z)
theorem bX12_hears_145 {fr M1 M2 b1 b2 : Nat} {Q : RS → Nat → AH → Prop} {h : AH} {l1 l2 l3 l4 : Int}   (kk : Wp mX12_hears (kR fr M1 M2) Q (b1, b2) 103 [zR 98, zI l1, zI l2, zI l3, zI (l4 + 1)] [] 137 h) : Wp mX12_hears (kR fr M1 M2) Q (b1, b2) 145 [zR 98, zI l1, zI l2, zI l3, zI l4] [] 137 h := by
  refine s_iinc (x := l4) dX12_hears_145 rfl rfl (by decide) ?_
  exact s_goto (tgt := 103) dX12_hears_148 (by decide) kk
theorem bX12_hears_151 {fr M1 M2 b1 b2 : Nat} {Q : RS → Nat → AH → Prop} {h : AH} {l1 l2 l3 : Int} {x4 : AV}   (kk : Wp mX12_hears (kR fr M1 M2) Q (b1, b2) 95 [zR 98, zI l1, zI l2, zI (l3 + 1), none] [] 137 h) : Wp mX12_hears (kR fr M1 M2) Q (b1, b2) 151 [zR 98, zI l1, zI l2, zI l3, x4] [] 137 h := by
  refine s_fgt (fgt_c (fgt_c (fgt_c (fgt_c (fgt_n _ fgt_0))))) ?_
  refine s_iinc (x := l3) dX12_hears_151 rfl rfl (by decide) ?_
  exact s_goto (tgt := 95) dX12_hears_154 (by decide) kk
theorem bX12_hears_157 {fr M1 M2 b1 b2 : Nat} {Q : RS → Nat → AH → Prop} {h : AH} {l2 : Int} {x0 x1 x3 x4 : AV}   (hq : Q (.inl (some (zI l2))) 137 h) : Wp mX12_hears (kR fr M1 M2) Q (b1, b2) 157 [x0, x1, zI l2, x3, x4] [] 137 h := by
  refine s_fgt (fgt_n _ (fgt_n _ (fgt_c (fgt_n _ (fgt_n _ fgt_0))))) ?_
  refine s_iload_n (x := l2) dX12_hears_157 rfl ?_
  exact s_ireturn dX12_hears_158 ⟨.int, rfl, rfl⟩ hq (fun z => by cases z)
theorem dX12_say_0 : decode mX12_say.cd 0 = .ok (.aload_n 0, 1) := by decide +kernel
theorem dX12_say_1 : decode mX12_say.cd 1 = .ok (.iconst 0, 1) := by decide +kernel
theorem dX12_say_2 : decode mX12_say.cd 2 = .ok (.putfield 136, 3) := by decide +kernel
theorem dX12_say_5 : decode mX12_say.cd 5 = .ok (.aload_n 0, 1) := by decide +kernel
theorem dX12_say_6 : decode mX12_say.cd 6 = .ok (.iload_n 1, 1) := by decide +kernel
theorem dX12_say_7 : decode mX12_say.cd 7 = .ok (.invokevirtual 325, 3) := by decide +kernel
theorem dX12_say_10 : decode mX12_say.cd 10 = .ok (.ifCond .ne 5, 3) := by decide +kernel
theorem dX12_say_13 : decode mX12_say.cd 13 = .ok (.iconst 0, 1) := by decide +kernel
theorem dX12_say_14 : decode mX12_say.cd 14 = .ok (.ireturn, 1) := by decide +kernel
theorem dX12_say_15 : decode mX12_say.cd 15 = .ok (.aload_n 0, 1) := by decide +kernel
theorem dX12_say_16 : decode mX12_say.cd 16 = .ok (.getfield 289, 3) := by decide +kernel
theorem dX12_say_19 : decode mX12_say.cd 19 = .ok (.sipush 200, 3) := by decide +kernel
theorem dX12_say_22 : decode mX12_say.cd 22 = .ok (.if_icmp .ge 18, 3) := by decide +kernel
theorem dX12_say_25 : decode mX12_say.cd 25 = .ok (.iload_n 2, 1) := by decide +kernel
theorem dX12_say_26 : decode mX12_say.cd 26 = .ok (.iconst 0, 1) := by decide +kernel
theorem dX12_say_27 : decode mX12_say.cd 27 = .ok (.sipush 199, 3) := by decide +kernel
theorem dX12_say_30 : decode mX12_say.cd 30 = .ok (.invokestatic 301, 3) := by decide +kernel
theorem dX12_say_33 : decode mX12_say.cd 33 = .ok (.ifCond .eq 7, 3) := by decide +kernel
theorem dX12_say_36 : decode mX12_say.cd 36 = .ok (.iconst 1, 1) := by decide +kernel
theorem dX12_say_37 : decode mX12_say.cd 37 = .ok (.goto 4, 3) := by decide +kernel
theorem dX12_say_40 : decode mX12_say.cd 40 = .ok (.iconst 0, 1) := by decide +kernel
theorem dX12_say_41 : decode mX12_say.cd 41 = .ok (.istore_n 3, 1) := by decide +kernel
theorem dX12_say_42 : decode mX12_say.cd 42 = .ok (.iconst 0, 1) := by decide +kernel
theorem dX12_say_43 : decode mX12_say.cd 43 = .ok (.istore 4, 2) := by decide +kernel
theorem dX12_say_45 : decode mX12_say.cd 45 = .ok (.iload 4, 2) := by decide +kernel
theorem dX12_say_47 : decode mX12_say.cd 47 = .ok (.aload_n 0, 1) := by decide +kernel
theorem dX12_say_48 : decode mX12_say.cd 48 = .ok (.getfield 289, 3) := by decide +kernel
theorem dX12_say_51 : decode mX12_say.cd 51 = .ok (.if_icmp .ge 41, 3) := by decide +kernel
theorem dX12_say_54 : decode mX12_say.cd 54 = .ok (.iload_n 3, 1) := by decide +kernel
theorem dX12_say_55 : decode mX12_say.cd 55 = .ok (.ifCond .eq 29, 3) := by decide +kernel
theorem dX12_say_58 : decode mX12_say.cd 58 = .ok (.aload_n 0, 1) := by decide +kernel
theorem dX12_say_59 : decode mX12_say.cd 59 = .ok (.getfield 71, 3) := by decide +kernel
theorem dX12_say_62 : decode mX12_say.cd 62 = .ok (.iload 4, 2) := by decide +kernel
theorem dX12_say_64 : decode mX12_say.cd 64 = .ok (.iaload, 1) := by decide +kernel
theorem dX12_say_65 : decode mX12_say.cd 65 = .ok (.iload_n 1, 1) := by decide +kernel
theorem dX12_say_66 : decode mX12_say.cd 66 = .ok (.if_icmp .ne 14, 3) := by decide +kernel
theorem dX12_say_69 : decode mX12_say.cd 69 = .ok (.aload_n 0, 1) := by decide +kernel
theorem dX12_say_70 : decode mX12_say.cd 70 = .ok (.getfield 74, 3) := by decide +kernel
theorem dX12_say_73 : decode mX12_say.cd 73 = .ok (.iload 4, 2) := by decide +kernel
theorem dX12_say_75 : decode mX12_say.cd 75 = .ok (.iaload, 1) := by decide +kernel
theorem dX12_say_76 : decode mX12_say.cd 76 = .ok (.iload_n 2, 1) := by decide +kernel
theorem dX12_say_77 : decode mX12_say.cd 77 = .ok (.if_icmp .eq 7, 3) := by decide +kernel
theorem dX12_say_80 : decode mX12_say.cd 80 = .ok (.iconst 1, 1) := by decide +kernel
theorem dX12_say_81 : decode mX12_say.cd 81 = .ok (.goto 4, 3) := by decide +kernel
theorem dX12_say_84 : decode mX12_say.cd 84 = .ok (.iconst 0, 1) := by decide +kernel
theorem dX12_say_85 : decode mX12_say.cd 85 = .ok (.istore_n 3, 1) := by decide +kernel
theorem dX12_say_86 : decode mX12_say.cd 86 = .ok (.iinc 4 1, 3) := by decide +kernel
theorem dX12_say_89 : decode mX12_say.cd 89 = .ok (.goto (-44), 3) := by decide +kernel
theorem dX12_say_92 : decode mX12_say.cd 92 = .ok (.iload_n 3, 1) := by decide +kernel
theorem dX12_say_93 : decode mX12_say.cd 93 = .ok (.ifCond .ne 15, 3) := by decide +kernel
theorem dX12_say_96 : decode mX12_say.cd 96 = .ok (.aload_n 0, 1) := by decide +kernel
theorem dX12_say_97 : decode mX12_say.cd 97 = .ok (.getfield 41, 3) := by decide +kernel
theorem dX12_say_100 : decode mX12_say.cd 100 = .ok (.iconst 1, 1) := by decide +kernel
theorem dX12_say_101 : decode mX12_say.cd 101 = .ok (.dup2, 1) := by decide +kernel
theorem dX12_say_102 : decode mX12_say.cd 102 = .ok (.iaload, 1) := by decide +kernel
theorem dX12_say_103 : decode mX12_say.cd 103 = .ok (.iconst 1, 1) := by decide +kernel
theorem dX12_say_104 : decode mX12_say.cd 104 = .ok (.iadd, 1) := by decide +kernel
theorem dX12_say_105 : decode mX12_say.cd 105 = .ok (.iastore, 1) := by decide +kernel
theorem dX12_say_106 : decode mX12_say.cd 106 = .ok (.iconst (-1), 1) := by decide +kernel
theorem dX12_say_107 : decode mX12_say.cd 107 = .ok (.ireturn, 1) := by decide +kernel
theorem dX12_say_108 : decode mX12_say.cd 108 = .ok (.aload_n 0, 1) := by decide +kernel
theorem dX12_say_109 : decode mX12_say.cd 109 = .ok (.getfield 71, 3) := by decide +kernel
theorem dX12_say_112 : decode mX12_say.cd 112 = .ok (.aload_n 0, 1) := by decide +kernel
theorem dX12_say_113 : decode mX12_say.cd 113 = .ok (.getfield 289, 3) := by decide +kernel
theorem dX12_say_116 : decode mX12_say.cd 116 = .ok (.iload_n 1, 1) := by decide +kernel
theorem dX12_say_117 : decode mX12_say.cd 117 = .ok (.iastore, 1) := by decide +kernel
theorem dX12_say_118 : decode mX12_say.cd 118 = .ok (.aload_n 0, 1) := by decide +kernel
theorem dX12_say_119 : decode mX12_say.cd 119 = .ok (.getfield 74, 3) := by decide +kernel
theorem dX12_say_122 : decode mX12_say.cd 122 = .ok (.aload_n 0, 1) := by decide +kernel
theorem dX12_say_123 : decode mX12_say.cd 123 = .ok (.getfield 289, 3) := by decide +kernel
theorem dX12_say_126 : decode mX12_say.cd 126 = .ok (.iload_n 2, 1) := by decide +kernel
theorem dX12_say_127 : decode mX12_say.cd 127 = .ok (.iastore, 1) := by decide +kernel
theorem dX12_say_128 : decode mX12_say.cd 128 = .ok (.aload_n 0, 1) := by decide +kernel
theorem dX12_say_129 : decode mX12_say.cd 129 = .ok (.dup, 1) := by decide +kernel
theorem dX12_say_130 : decode mX12_say.cd 130 = .ok (.getfield 289, 3) := by decide +kernel
theorem dX12_say_133 : decode mX12_say.cd 133 = .ok (.iconst 1, 1) := by decide +kernel
theorem dX12_say_134 : decode mX12_say.cd 134 = .ok (.iadd, 1) := by decide +kernel
theorem dX12_say_135 : decode mX12_say.cd 135 = .ok (.putfield 289, 3) := by decide +kernel
theorem dX12_say_138 : decode mX12_say.cd 138 = .ok (.aload_n 0, 1) := by decide +kernel
theorem dX12_say_139 : decode mX12_say.cd 139 = .ok (.getfield 289, 3) := by decide +kernel
theorem dX12_say_142 : decode mX12_say.cd 142 = .ok (.ireturn, 1) := by decide +kernel
theorem bX12_say_0 {fr M1 M2 b1 b2 : Nat} {Q : RS → Nat → AH → Prop} {h : AH} {l1 l2 : Int} {x3 x4 : AV} {R : Int → AH → Prop}   (hS : Sp mX12_isSound true (fr - 1) 0 0 [zR 98, zI l1] 137 (up h 98 0 0) (rI R)) (hf : 1 ≤ fr := by omega) (kk : ∀ (x : Int) (h' : AH), R x h' → Wp mX12_say (kR fr M1 M2) Q (b1, b2) 10 [zR 98, zI l1, zI l2, none, none] [zI x] 137 h') : Wp mX12_say (kR fr M1 M2) Q (b1, b2) 0 [zR 98, zI l1, zI l2, x3, x4] [] 137 h := by
  refine s_fgt (fgt_c (fgt_c (fgt_c (fgt_n _ (fgt_n _ fgt_0))))) ?_
  refine s_aload_n (x := 98) dX12_say_0 rfl ?_
  refine s_iconst dX12_say_1 ?_
  refine s_put (c := 98) dX12_say_2 lX12_136 e98 ?_
  refine s_aload_n (x := 98) dX12_say_5 rfl ?_
  refine s_iload_n (x := l1) dX12_say_6 rfl ?_
  exact s_callV (as := [zI l1]) (st := []) (o := 98) dX12_say_7 kX12_325 rfl ⟨12, 87, TX12, e98, rfl, by decide⟩ rfl rfl (Nat.le_of_ble_eq_true rfl) hS (show fr - 1 + 1 ≤ fr by omega) (Nat.zero_le _) (Nat.zero_le _) (fun v n' h' hP _ => by obtain ⟨x, e, rfl, hR⟩ := hP; cases e; exact kk x h' hR) (fun E n' h' _ z => (rI_nt _ _ _ z).elim)
theorem bX12_say_10 {fr M1 M2 b1 b2 : Nat} {Q : RS → Nat → AH → Prop} {h : AH} {l1 l2 s0 : Int} {x3 x4 : AV}  (r1 : -2147483648 ≤ s0 ∧ s0 < 2147483648 := by omega) (kt : ¬ s0 = 0 → Wp mX12_say (kR fr M1 M2) Q (b1, b2) 15 [zR 98, zI l1, zI l2, none, none] [] 137 h) (kf : s0 = 0 → Wp mX12_say (kR fr M1 M2) Q (b1, b2) 13 [zR 98, zI l1, zI l2, none, none] [] 137 h) : Wp mX12_say (kR fr M1 M2) Q (b1, b2) 10 [zR 98, zI l1, zI l2, x3, x4] [zI s0] 137 h := by
  refine s_fgt (fgt_c (fgt_c (fgt_c (fgt_n _ (fgt_n _ fgt_0))))) ?_
  exact s_if_ne (tgt := 15) dX12_say_10 (by decide) r1 kt kf
theorem bX12_say_13 {fr M1 M2 b1 b2 : Nat} {Q : RS → Nat → AH → Prop} {h : AH} {x0 x1 x2 x3 x4 : AV}   (hq : Q (.inl (some (zI 0))) 137 h) : Wp mX12_say (kR fr M1 M2) Q (b1, b2) 13 [x0, x1, x2, x3, x4] [] 137 h := by
  refine s_fgt (fgt_n _ (fgt_n _ (fgt_n _ (fgt_n _ (fgt_n _ fgt_0))))) ?_
  refine s_iconst dX12_say_13 ?_
  exact s_ireturn dX12_say_14 ⟨.int, rfl, rfl⟩ hq (fun z => by cases z)
theorem bX12_say_15 {fr M1 M2 b1 b2 : Nat} {Q : RS → Nat → AH → Prop} {h : AH} {l1 l2 : Int} {x3 x4 : AV}  (r1 : -2147483648 ≤ h 98 50 ∧ h 98 50 < 2147483648 := by omega) (kt : 200 ≤ h 98 50 → Wp mX12_say (kR fr M1 M2) Q (b1, b2) 40 [zR 98, zI l1, zI l2, none, none] [] 137 h) (kf : h 98 50 < 200 → Wp mX12_say (kR fr M1 M2) Q (b1, b2) 25 [zR 98, zI l1, zI l2, none, none] [] 137 h) : Wp mX12_say (kR fr M1 M2) Q (b1, b2) 15 [zR 98, zI l1, zI l2, x3, x4] [] 137 h := by
  refine s_fgt (fgt_c (fgt_c (fgt_c (fgt_n _ (fgt_n _ fgt_0))))) ?_
  refine s_aload_n (x := 98) dX12_say_15 rfl ?_
  refine s_get (c := 98) dX12_say_16 lX12_289 e98 (by decide) ?_
  refine s_sipush dX12_say_19 (by decide) ?_
  exact s_icmp_ge (tgt := 40) dX12_say_22 (by decide) r1 ⟨by decide, by decide⟩ kt kf
theorem bX12_say_25 {fr M1 M2 b1 b2 : Nat} {Q : RS → Nat → AH → Prop} {h : AH} {l1 l2 : Int} {x3 x4 : AV} {R : Int → AH → Prop}   (hS : Sp mX12_within true (fr - 1) 0 0 [zI l2, zI 0, zI 199] 137 h (rI R)) (hf : 1 ≤ fr := by omega) (kk : ∀ (x : Int) (h' : AH), R x h' → Wp mX12_say (kR fr M1 M2) Q (b1, b2) 33 [zR 98, zI l1, zI l2, none, none] [zI x] 137 h') : Wp mX12_say (kR fr M1 M2) Q (b1, b2) 25 [zR 98, zI l1, zI l2, x3, x4] [] 137 h := by
  refine s_fgt (fgt_c (fgt_c (fgt_c (fgt_n _ (fgt_n _ fgt_0))))) ?_
  refine s_iload_n (x := l2) dX12_say_25 rfl ?_
  refine s_iconst dX12_say_26 ?_
  refine s_sipush dX12_say_27 (by decide) ?_
  exact s_callS (as := [zI l2, zI 0, zI 199]) (st := []) dX12_say_30 kX12_301 rfl rfl (Nat.le_of_ble_eq_true rfl) hS (show fr - 1 + 1 ≤ fr by omega) (Nat.zero_le _) (Nat.zero_le _) (fun v n' h' hP _ => by obtain ⟨x, e, rfl, hR⟩ := hP; cases e; exact kk x h' hR) (fun E n' h' _ z => (rI_nt _ _ _ z).elim)
theorem bX12_say_33 {fr M1 M2 b1 b2 : Nat} {Q : RS → Nat → AH → Prop} {h : AH} {l1 l2 s0 : Int} {x3 x4 : AV}  (r1 : -2147483648 ≤ s0 ∧ s0 < 2147483648 := by omega) (kt : s0 = 0 → Wp mX12_say (kR fr M1 M2) Q (b1, b2) 40 [zR 98, zI l1, zI l2, none, none] [] 137 h) (kf : ¬ s0 = 0 → Wp mX12_say (kR fr M1 M2) Q (b1, b2) 36 [zR 98, zI l1, zI l2, none, none] [] 137 h) : Wp mX12_say (kR fr M1 M2) Q (b1, b2) 33 [zR 98, zI l1, zI l2, x3, x4] [zI s0] 137 h := by
  refine s_fgt (fgt_c (fgt_c (fgt_c (fgt_n _ (fgt_n _ fgt_0))))) ?_
  exact s_if_eq (tgt := 40) dX12_say_33 (by decide) r1 kt kf
theorem bX12_say_36 {fr M1 M2 b1 b2 : Nat} {Q : RS → Nat → AH → Prop} {h : AH} {l1 l2 : Int} {x3 x4 : AV}   (kk : Wp mX12_say (kR fr M1 M2) Q (b1, b2) 41 [zR 98, zI l1, zI l2, none, none] [zI 1] 137 h) : Wp mX12_say (kR fr M1 M2) Q (b1, b2) 36 [zR 98, zI l1, zI l2, x3, x4] [] 137 h := by
  refine s_fgt (fgt_c (fgt_c (fgt_c (fgt_n _ (fgt_n _ fgt_0))))) ?_
  refine s_iconst dX12_say_36 ?_
  exact s_goto (tgt := 41) dX12_say_37 (by decide) kk
theorem bX12_say_40 {fr M1 M2 b1 b2 : Nat} {Q : RS → Nat → AH → Prop} {h : AH} {l1 l2 : Int} {x3 x4 : AV}   (kk : Wp mX12_say (kR fr M1 M2) Q (b1, b2) 41 [zR 98, zI l1, zI l2, none, none] [zI 0] 137 h) : Wp mX12_say (kR fr M1 M2) Q (b1, b2) 40 [zR 98, zI l1, zI l2, x3, x4] [] 137 h := by
  refine s_fgt (fgt_c (fgt_c (fgt_c (fgt_n _ (fgt_n _ fgt_0))))) ?_
  refine s_iconst dX12_say_40 ?_
  exact kk
theorem bX12_say_41 {fr M1 M2 b1 b2 : Nat} {Q : RS → Nat → AH → Prop} {h : AH} {l1 l2 s0 : Int} {x3 x4 : AV}   (kk : Wp mX12_say (kR fr M1 M2) Q (b1, b2) 45 [zR 98, zI l1, zI l2, zI s0, zI 0] [] 137 h) : Wp mX12_say (kR fr M1 M2) Q (b1, b2) 41 [zR 98, zI l1, zI l2, x3, x4] [zI s0] 137 h := by
  refine s_fgt (fgt_c (fgt_c (fgt_c (fgt_n _ (fgt_n _ fgt_0))))) ?_
  refine s_istore_n dX12_say_41 rfl (by decide) ?_
  refine s_iconst dX12_say_42 ?_
  refine s_istore dX12_say_43 rfl (by decide) ?_
  exact kk
theorem bX12_say_45 {fr M1 M2 b1 b2 : Nat} {Q : RS → Nat → AH → Prop} {h : AH} {l1 l2 l3 l4 : Int}  (r1 : -2147483648 ≤ l4 ∧ l4 < 2147483648 := by omega) (r2 : -2147483648 ≤ h 98 50 ∧ h 98 50 < 2147483648 := by omega) (kt : h 98 50 ≤ l4 → Wp mX12_say (kR fr M1 M2) Q (b1, b2) 92 [zR 98, zI l1, zI l2, zI l3, zI l4] [] 137 h) (kf : l4 < h 98 50 → Wp mX12_say (kR fr M1 M2) Q (b1, b2) 54 [zR 98, zI l1, zI l2, zI l3, zI l4] [] 137 h) : Wp mX12_say (kR fr M1 M2) Q (b1, b2) 45 [zR 98, zI l1, zI l2, zI l3, zI l4] [] 137 h := by
  refine s_iload (x := l4) dX12_say_45 rfl ?_
  refine s_aload_n (x := 98) dX12_say_47 rfl ?_
  refine s_get (c := 98) dX12_say_48 lX12_289 e98 (by decide) ?_
  exact s_icmp_ge (tgt := 92) dX12_say_51 (by decide) r1 r2 kt kf
theorem bX12_say_54 {fr M1 M2 b1 b2 : Nat} {Q : RS → Nat → AH → Prop} {h : AH} {l1 l2 l3 l4 : Int}  (r1 : -2147483648 ≤ l3 ∧ l3 < 2147483648 := by omega) (kt : l3 = 0 → Wp mX12_say (kR fr M1 M2) Q (b1, b2) 84 [zR 98, zI l1, zI l2, zI l3, zI l4] [] 137 h) (kf : ¬ l3 = 0 → Wp mX12_say (kR fr M1 M2) Q (b1, b2) 58 [zR 98, zI l1, zI l2, zI l3, zI l4] [] 137 h) : Wp mX12_say (kR fr M1 M2) Q (b1, b2) 54 [zR 98, zI l1, zI l2, zI l3, zI l4] [] 137 h := by
  refine s_iload_n (x := l3) dX12_say_54 rfl ?_
  exact s_if_eq (tgt := 84) dX12_say_55 (by decide) r1 kt kf
theorem bX12_say_58 {fr M1 M2 b1 b2 : Nat} {Q : RS → Nat → AH → Prop} {h : AH} {l1 l2 l4 : Int} {x3 : AV}  (r1 : 0 ≤ l4 ∧ l4 < 200 := by omega) (r2 : -2147483648 ≤ h 116 l4 ∧ h 116 l4 < 2147483648 := by omega) (r3 : -2147483648 ≤ l1 ∧ l1 < 2147483648 := by omega) (kt : ¬ h 116 l4 = l1 → Wp mX12_say (kR fr M1 M2) Q (b1, b2) 80 [zR 98, zI l1, zI l2, none, zI l4] [] 137 h) (kf : h 116 l4 = l1 → Wp mX12_say (kR fr M1 M2) Q (b1, b2) 69 [zR 98, zI l1, zI l2, none, zI l4] [] 137 h) : Wp mX12_say (kR fr M1 M2) Q (b1, b2) 58 [zR 98, zI l1, zI l2, x3, zI l4] [] 137 h := by
  refine s_fgt (fgt_c (fgt_c (fgt_c (fgt_n _ (fgt_c fgt_0))))) ?_
  refine s_aload_n (x := 98) dX12_say_58 rfl ?_
  refine s_getFd (c := 98) (d := 116) dX12_say_59 lX12_71 e98 (Or.inl rfl) (by decide) (by decide) ?_
  refine s_iload (x := l4) dX12_say_62 rfl ?_
  refine s_iald (c := 116) (i := l4) dX12_say_64 e116 r1.1 r1.2 ?_
  refine s_iload_n (x := l1) dX12_say_65 rfl ?_
  exact s_icmp_ne (tgt := 80) dX12_say_66 (by decide) r2 r3 kt kf
theorem bX12_say_69 {fr M1 M2 b1 b2 : Nat} {Q : RS → Nat → AH → Prop} {h : AH} {l1 l2 l4 : Int} {x3 : AV}  (r1 : 0 ≤ l4 ∧ l4 < 200 := by omega) (r2 : -2147483648 ≤ h 117 l4 ∧ h 117 l4 < 2147483648 := by omega) (r3 : -2147483648 ≤ l2 ∧ l2 < 2147483648 := by omega) (kt : h 117 l4 = l2 → Wp mX12_say (kR fr M1 M2) Q (b1, b2) 84 [zR 98, zI l1, zI l2, none, zI l4] [] 137 h) (kf : ¬ h 117 l4 = l2 → Wp mX12_say (kR fr M1 M2) Q (b1, b2) 80 [zR 98, zI l1, zI l2, none, zI l4] [] 137 h) : Wp mX12_say (kR fr M1 M2) Q (b1, b2) 69 [zR 98, zI l1, zI l2, x3, zI l4] [] 137 h := by
  refine s_fgt (fgt_c (fgt_c (fgt_c (fgt_n _ (fgt_c fgt_0))))) ?_
  refine s_aload_n (x := 98) dX12_say_69 rfl ?_
  refine s_getFd (c := 98) (d := 117) dX12_say_70 lX12_74 e98 (Or.inl rfl) (by decide) (by decide) ?_
  refine s_iload (x := l4) dX12_say_73 rfl ?_
  refine s_iald (c := 117) (i := l4) dX12_say_75 e117 r1.1 r1.2 ?_
  refine s_iload_n (x := l2) dX12_say_76 rfl ?_
  exact s_icmp_eq (tgt := 84) dX12_say_77 (by decide) r2 r3 kt kf
theorem bX12_say_80 {fr M1 M2 b1 b2 : Nat} {Q : RS → Nat → AH → Prop} {h : AH} {l1 l2 l4 : Int} {x3 : AV}   (kk : Wp mX12_say (kR fr M1 M2) Q (b1, b2) 85 [zR 98, zI l1, zI l2, none, zI l4] [zI 1] 137 h) : Wp mX12_say (kR fr M1 M2) Q (b1, b2) 80 [zR 98, zI l1, zI l2, x3, zI l4] [] 137 h := by
  refine s_fgt (fgt_c (fgt_c (fgt_c (fgt_n _ (fgt_c fgt_0))))) ?_
  refine s_iconst dX12_say_80 ?_
  exact s_goto (tgt := 85) dX12_say_81 (by decide) kk
theorem bX12_say_84 {fr M1 M2 b1 b2 : Nat} {Q : RS → Nat → AH → Prop} {h : AH} {l1 l2 l4 : Int} {x3 : AV}   (kk : Wp mX12_say (kR fr M1 M2) Q (b1, b2) 85 [zR 98, zI l1, zI l2, none, zI l4] [zI 0] 137 h) : Wp mX12_say (kR fr M1 M2) Q (b1, b2) 84 [zR 98, zI l1, zI l2, x3, zI l4] [] 137 h := by
  refine s_fgt (fgt_c (fgt_c (fgt_c (fgt_n _ (fgt_c fgt_0))))) ?_
  refine s_iconst dX12_say_84 ?_
  exact kk
theorem bX12_say_85 {fr M1 M2 b1 b2 : Nat} {Q : RS → Nat → AH → Prop} {h : AH} {l1 l2 l4 s0 : Int} {x3 : AV}   (kk : Wp mX12_say (kR fr M1 M2) Q (b1, b2) 45 [zR 98, zI l1, zI l2, zI s0, zI (l4 + 1)] [] 137 h) : Wp mX12_say (kR fr M1 M2) Q (b1, b2) 85 [zR 98, zI l1, zI l2, x3, zI l4] [zI s0] 137 h := by
  refine s_fgt (fgt_c (fgt_c (fgt_c (fgt_n _ (fgt_c fgt_0))))) ?_
  refine s_istore_n dX12_say_85 rfl (by decide) ?_
  refine s_iinc (x := l4) dX12_say_86 rfl rfl (by decide) ?_
  exact s_goto (tgt := 45) dX12_say_89 (by decide) kk
theorem bX12_say_92 {fr M1 M2 b1 b2 : Nat} {Q : RS → Nat → AH → Prop} {h : AH} {l1 l2 l3 : Int} {x4 : AV}  (r1 : -2147483648 ≤ l3 ∧ l3 < 2147483648 := by omega) (kt : ¬ l3 = 0 → Wp mX12_say (kR fr M1 M2) Q (b1, b2) 108 [zR 98, zI l1, zI l2, zI l3, none] [] 137 h) (kf : l3 = 0 → Wp mX12_say (kR fr M1 M2) Q (b1, b2) 96 [zR 98, zI l1, zI l2, zI l3, none] [] 137 h) : Wp mX12_say (kR fr M1 M2) Q (b1, b2) 92 [zR 98, zI l1, zI l2, zI l3, x4] [] 137 h := by
  refine s_fgt (fgt_c (fgt_c (fgt_c (fgt_c (fgt_n _ fgt_0))))) ?_
  refine s_iload_n (x := l3) dX12_say_92 rfl ?_
  exact s_if_ne (tgt := 108) dX12_say_93 (by decide) r1 kt kf
theorem bX12_say_96 {fr M1 M2 b1 b2 : Nat} {Q : RS → Nat → AH → Prop} {h : AH} {x1 x2 x3 x4 : AV}   (hq : Q (.inl (some (zI (-1)))) 137 (up h 107 1 ((h 107 1) + 1))) : Wp mX12_say (kR fr M1 M2) Q (b1, b2) 96 [zR 98, x1, x2, x3, x4] [] 137 h := by
  refine s_fgt (fgt_c (fgt_n _ (fgt_n _ (fgt_n _ (fgt_n _ fgt_0))))) ?_
  refine s_aload_n (x := 98) dX12_say_96 rfl ?_
  refine s_getFd (c := 98) (d := 107) dX12_say_97 lX12_41 e98 (Or.inl rfl) (by decide) (by decide) ?_
  refine s_iconst dX12_say_100 ?_
  refine s_dup2 dX12_say_101 rfl rfl ?_
  refine s_iald (c := 107) (i := 1) dX12_say_102 e107 (by decide) (by decide) ?_
  refine s_iconst dX12_say_103 ?_
  refine s_iadd dX12_say_104 ?_
  refine s_iast (c := 107) (i := 1) dX12_say_105 e107 (by decide) (by decide) ?_
  refine s_iconst dX12_say_106 ?_
  exact s_ireturn dX12_say_107 ⟨.int, rfl, rfl⟩ hq (fun z => by cases z)
theorem bX12_say_108 {fr M1 M2 b1 b2 : Nat} {Q : RS → Nat → AH → Prop} {h : AH} {l1 l2 : Int} {x3 x4 : AV}  (r1 : 0 ≤ h 98 50 ∧ h 98 50 < 200 := by omega) (hq : Q (.inl (some (zI ((h 98 50) + 1)))) 137 (up (up (up h 116 (h 98 50) l1) 117 (h 98 50) l2) 98 50 ((h 98 50) + 1))) : Wp mX12_say (kR fr M1 M2) Q (b1, b2) 108 [zR 98, zI l1, zI l2, x3, x4] [] 137 h := by
  refine s_fgt (fgt_c (fgt_c (fgt_c (fgt_n _ (fgt_n _ fgt_0))))) ?_
  refine s_aload_n (x := 98) dX12_say_108 rfl ?_
  refine s_getFd (c := 98) (d := 116) dX12_say_109 lX12_71 e98 (Or.inl rfl) (by decide) (by decide) ?_
  refine s_aload_n (x := 98) dX12_say_112 rfl ?_
  refine s_get (c := 98) dX12_say_113 lX12_289 e98 (by decide) ?_
  refine s_iload_n (x := l1) dX12_say_116 rfl ?_
  refine s_iast (c := 116) (i := h 98 50) dX12_say_117 e116 r1.1 r1.2 ?_
  refine s_aload_n (x := 98) dX12_say_118 rfl ?_
  refine s_getFd (c := 98) (d := 117) dX12_say_119 lX12_74 e98 (Or.inl rfl) (by decide) (by decide) ?_
  refine s_aload_n (x := 98) dX12_say_122 rfl ?_
  refine s_get (c := 98) dX12_say_123 lX12_289 e98 (by decide) ?_
  refine s_iload_n (x := l2) dX12_say_126 rfl ?_
  refine s_iast (c := 117) (i := h 98 50) dX12_say_127 e117 r1.1 r1.2 ?_
  refine s_aload_n (x := 98) dX12_say_128 rfl ?_
  refine s_dup dX12_say_129 rfl ?_
  refine s_get (c := 98) dX12_say_130 lX12_289 e98 (by decide) ?_
  refine s_iconst dX12_say_133 ?_
  refine s_iadd dX12_say_134 ?_
  refine s_put (c := 98) dX12_say_135 lX12_289 e98 ?_
  refine s_aload_n (x := 98) dX12_say_138 rfl ?_
  refine s_get (c := 98) dX12_say_139 lX12_289 e98 (by decide) ?_
  exact s_ireturn dX12_say_142 ⟨.int, rfl, rfl⟩ hq (fun z => by cases z)
theorem dX12_hush_0 : decode mX12_hush.cd 0 = .ok (.aload_n 0, 1) := by decide +kernel
theorem dX12_hush_1 : decode mX12_hush.cd 1 = .ok (.iconst 0, 1) := by decide +kernel
theorem dX12_hush_2 : decode mX12_hush.cd 2 = .ok (.putfield 136, 3) := by decide +kernel
theorem dX12_hush_5 : decode mX12_hush.cd 5 = .ok (.aload_n 0, 1) := by decide +kernel
theorem dX12_hush_6 : decode mX12_hush.cd 6 = .ok (.getfield 289, 3) := by decide +kernel
theorem dX12_hush_9 : decode mX12_hush.cd 9 = .ok (.istore_n 1, 1) := by decide +kernel
theorem dX12_hush_10 : decode mX12_hush.cd 10 = .ok (.aload_n 0, 1) := by decide +kernel
theorem dX12_hush_11 : decode mX12_hush.cd 11 = .ok (.iconst 0, 1) := by decide +kernel
theorem dX12_hush_12 : decode mX12_hush.cd 12 = .ok (.putfield 289, 3) := by decide +kernel
theorem dX12_hush_15 : decode mX12_hush.cd 15 = .ok (.iload_n 1, 1) := by decide +kernel
theorem dX12_hush_16 : decode mX12_hush.cd 16 = .ok (.ireturn, 1) := by decide +kernel
theorem bX12_hush_0 {fr M1 M2 b1 b2 : Nat} {Q : RS → Nat → AH → Prop} {h : AH} {x1 : AV}   (hq : Q (.inl (some (zI (h 98 50)))) 137 (up (up h 98 0 0) 98 50 0)) : Wp mX12_hush (kR fr M1 M2) Q (b1, b2) 0 [zR 98, x1] [] 137 h := by
  refine s_fgt (fgt_c (fgt_n _ fgt_0)) ?_
  refine s_aload_n (x := 98) dX12_hush_0 rfl ?_
  refine s_iconst dX12_hush_1 ?_
  refine s_put (c := 98) dX12_hush_2 lX12_136 e98 ?_
  refine s_aload_n (x := 98) dX12_hush_5 rfl ?_
  refine s_get (c := 98) dX12_hush_6 lX12_289 e98 (by decide) ?_
  refine s_istore_n dX12_hush_9 rfl (by decide) ?_
  refine s_aload_n (x := 98) dX12_hush_10 rfl ?_
  refine s_iconst dX12_hush_11 ?_
  refine s_put (c := 98) dX12_hush_12 lX12_289 e98 ?_
  refine s_iload_n (x := h 98 50) dX12_hush_15 rfl ?_
  exact s_ireturn dX12_hush_16 ⟨.int, rfl, rfl⟩ hq (fun z => by cases z)
theorem dX12_isWhere_0 : decode mX12_isWhere.cd 0 = .ok (.aload_n 0, 1) := by decide +kernel
theorem dX12_isWhere_1 : decode mX12_isWhere.cd 1 = .ok (.iload_n 1, 1) := by decide +kernel
theorem dX12_isWhere_2 : decode mX12_isWhere.cd 2 = .ok (.iconst 0, 1) := by decide +kernel
theorem dX12_isWhere_3 : decode mX12_isWhere.cd 3 = .ok (.iconst 2, 1) := by decide +kernel
theorem dX12_isWhere_4 : decode mX12_isWhere.cd 4 = .ok (.invokestatic 301, 3) := by decide +kernel
theorem dX12_isWhere_7 : decode mX12_isWhere.cd 7 = .ok (.ifCond .eq 28, 3) := by decide +kernel
theorem dX12_isWhere_10 : decode mX12_isWhere.cd 10 = .ok (.iload_n 2, 1) := by decide +kernel
theorem dX12_isWhere_11 : decode mX12_isWhere.cd 11 = .ok (.iconst 0, 1) := by decide +kernel
theorem dX12_isWhere_12 : decode mX12_isWhere.cd 12 = .ok (.bipush 23, 2) := by decide +kernel
theorem dX12_isWhere_14 : decode mX12_isWhere.cd 14 = .ok (.invokestatic 301, 3) := by decide +kernel
theorem dX12_isWhere_17 : decode mX12_isWhere.cd 17 = .ok (.ifCond .eq 18, 3) := by decide +kernel
theorem dX12_isWhere_20 : decode mX12_isWhere.cd 20 = .ok (.iload_n 3, 1) := by decide +kernel
theorem dX12_isWhere_21 : decode mX12_isWhere.cd 21 = .ok (.iconst 0, 1) := by decide +kernel
theorem dX12_isWhere_22 : decode mX12_isWhere.cd 22 = .ok (.sipush 399, 3) := by decide +kernel
theorem dX12_isWhere_25 : decode mX12_isWhere.cd 25 = .ok (.invokestatic 301, 3) := by decide +kernel
theorem dX12_isWhere_28 : decode mX12_isWhere.cd 28 = .ok (.ifCond .eq 7, 3) := by decide +kernel
theorem dX12_isWhere_31 : decode mX12_isWhere.cd 31 = .ok (.iconst 1, 1) := by decide +kernel
theorem dX12_isWhere_32 : decode mX12_isWhere.cd 32 = .ok (.goto 4, 3) := by decide +kernel
theorem dX12_isWhere_35 : decode mX12_isWhere.cd 35 = .ok (.iconst 0, 1) := by decide +kernel
theorem dX12_isWhere_36 : decode mX12_isWhere.cd 36 = .ok (.iconst 1, 1) := by decide +kernel
theorem dX12_isWhere_37 : decode mX12_isWhere.cd 37 = .ok (.invokevirtual 260, 3) := by decide +kernel
theorem dX12_isWhere_40 : decode mX12_isWhere.cd 40 = .ok (.ireturn, 1) := by decide +kernel
theorem bX12_isWhere_0 {fr M1 M2 b1 b2 : Nat} {Q : RS → Nat → AH → Prop} {h : AH} {l1 l2 l3 : Int} {R : Int → AH → Prop}   (hS : Sp mX12_within true (fr - 1) 0 0 [zI l1, zI 0, zI 2] 137 h (rI R)) (hf : 1 ≤ fr := by omega) (kk : ∀ (x : Int) (h' : AH), R x h' → Wp mX12_isWhere (kR fr M1 M2) Q (b1, b2) 7 [zR 98, zI l1, zI l2, zI l3] [zI x, zR 98] 137 h') : Wp mX12_isWhere (kR fr M1 M2) Q (b1, b2) 0 [zR 98, zI l1, zI l2, zI l3] [] 137 h := by
  refine s_aload_n (x := 98) dX12_isWhere_0 rfl ?_
  refine s_iload_n (x := l1) dX12_isWhere_1 rfl ?_
  refine s_iconst dX12_isWhere_2 ?_
  refine s_iconst dX12_isWhere_3 ?_
  exact s_callS (as := [zI l1, zI 0, zI 2]) (st := [zR 98]) dX12_isWhere_4 kX12_301 rfl rfl (Nat.le_of_ble_eq_true rfl) hS (show fr - 1 + 1 ≤ fr by omega) (Nat.zero_le _) (Nat.zero_le _) (fun v n' h' hP _ => by obtain ⟨x, e, rfl, hR⟩ := hP; cases e; exact kk x h' hR) (fun E n' h' _ z => (rI_nt _ _ _ z).elim)
theorem bX12_isWhere_7 {fr M1 M2 b1 b2 : Nat} {Q : RS → Nat → AH → Prop} {h : AH} {l2 l3 s0 : Int} {x0 x1 : AV}  (r1 : -2147483648 ≤ s0 ∧ s0 < 2147483648 := by omega) (kt : s0 = 0 → Wp mX12_isWhere (kR fr M1 M2) Q (b1, b2) 35 [none, none, zI l2, zI l3] [zR 98] 137 h) (kf : ¬ s0 = 0 → Wp mX12_isWhere (kR fr M1 M2) Q (b1, b2) 10 [none, none, zI l2, zI l3] [zR 98] 137 h) : Wp mX12_isWhere (kR fr M1 M2) Q (b1, b2) 7 [x0, x1, zI l2, zI l3] [zI s0, zR 98] 137 h := by
  refine s_fgt (fgt_n _ (fgt_n _ (fgt_c (fgt_c fgt_0)))) ?_
  exact s_if_eq (tgt := 35) dX12_isWhere_7 (by decide) r1 kt kf
theorem bX12_isWhere_10 {fr M1 M2 b1 b2 : Nat} {Q : RS → Nat → AH → Prop} {h : AH} {l2 l3 : Int} {x0 x1 : AV} {R : Int → AH → Prop}   (hS : Sp mX12_within true (fr - 1) 0 0 [zI l2, zI 0, zI 23] 137 h (rI R)) (hf : 1 ≤ fr := by omega) (kk : ∀ (x : Int) (h' : AH), R x h' → Wp mX12_isWhere (kR fr M1 M2) Q (b1, b2) 17 [none, none, zI l2, zI l3] [zI x, zR 98] 137 h') : Wp mX12_isWhere (kR fr M1 M2) Q (b1, b2) 10 [x0, x1, zI l2, zI l3] [zR 98] 137 h := by
  refine s_fgt (fgt_n _ (fgt_n _ (fgt_c (fgt_c fgt_0)))) ?_
  refine s_iload_n (x := l2) dX12_isWhere_10 rfl ?_
  refine s_iconst dX12_isWhere_11 ?_
  refine s_bipush dX12_isWhere_12 (by decide) ?_
  exact s_callS (as := [zI l2, zI 0, zI 23]) (st := [zR 98]) dX12_isWhere_14 kX12_301 rfl rfl (Nat.le_of_ble_eq_true rfl) hS (show fr - 1 + 1 ≤ fr by omega) (Nat.zero_le _) (Nat.zero_le _) (fun v n' h' hP _ => by obtain ⟨x, e, rfl, hR⟩ := hP; cases e; exact kk x h' hR) (fun E n' h' _ z => (rI_nt _ _ _ z).elim)
theorem bX12_isWhere_17 {fr M1 M2 b1 b2 : Nat} {Q : RS → Nat → AH → Prop} {h : AH} {l3 s0 : Int} {x0 x1 x2 : AV}  (r1 : -2147483648 ≤ s0 ∧ s0 < 2147483648 := by omega) (kt : s0 = 0 → Wp mX12_isWhere (kR fr M1 M2) Q (b1, b2) 35 [none, none, none, zI l3] [zR 98] 137 h) (kf : ¬ s0 = 0 → Wp mX12_isWhere (kR fr M1 M2) Q (b1, b2) 20 [none, none, none, zI l3] [zR 98] 137 h) : Wp mX12_isWhere (kR fr M1 M2) Q (b1, b2) 17 [x0, x1, x2, zI l3] [zI s0, zR 98] 137 h := by
  refine s_fgt (fgt_n _ (fgt_n _ (fgt_n _ (fgt_c fgt_0)))) ?_
  exact s_if_eq (tgt := 35) dX12_isWhere_17 (by decide) r1 kt kf
theorem bX12_isWhere_20 {fr M1 M2 b1 b2 : Nat} {Q : RS → Nat → AH → Prop} {h : AH} {l3 : Int} {x0 x1 x2 : AV} {R : Int → AH → Prop}   (hS : Sp mX12_within true (fr - 1) 0 0 [zI l3, zI 0, zI 399] 137 h (rI R)) (hf : 1 ≤ fr := by omega) (kk : ∀ (x : Int) (h' : AH), R x h' → Wp mX12_isWhere (kR fr M1 M2) Q (b1, b2) 28 [none, none, none, zI l3] [zI x, zR 98] 137 h') : Wp mX12_isWhere (kR fr M1 M2) Q (b1, b2) 20 [x0, x1, x2, zI l3] [zR 98] 137 h := by
  refine s_fgt (fgt_n _ (fgt_n _ (fgt_n _ (fgt_c fgt_0)))) ?_
  refine s_iload_n (x := l3) dX12_isWhere_20 rfl ?_
  refine s_iconst dX12_isWhere_21 ?_
  refine s_sipush dX12_isWhere_22 (by decide) ?_
  exact s_callS (as := [zI l3, zI 0, zI 399]) (st := [zR 98]) dX12_isWhere_25 kX12_301 rfl rfl (Nat.le_of_ble_eq_true rfl) hS (show fr - 1 + 1 ≤ fr by omega) (Nat.zero_le _) (Nat.zero_le _) (fun v n' h' hP _ => by obtain ⟨x, e, rfl, hR⟩ := hP; cases e; exact kk x h' hR) (fun E n' h' _ z => (rI_nt _ _ _ z).elim)
theorem bX12_isWhere_28 {fr M1 M2 b1 b2 : Nat} {Q : RS → Nat → AH → Prop} {h : AH} {s0 : Int} {x0 x1 x2 x3 : AV}  (r1 : -2147483648 ≤ s0 ∧ s0 < 2147483648 := by omega) (kt : s0 = 0 → Wp mX12_isWhere (kR fr M1 M2) Q (b1, b2) 35 [none, none, none, none] [zR 98] 137 h) (kf : ¬ s0 = 0 → Wp mX12_isWhere (kR fr M1 M2) Q (b1, b2) 31 [none, none, none, none] [zR 98] 137 h) : Wp mX12_isWhere (kR fr M1 M2) Q (b1, b2) 28 [x0, x1, x2, x3] [zI s0, zR 98] 137 h := by
  refine s_fgt (fgt_n _ (fgt_n _ (fgt_n _ (fgt_n _ fgt_0)))) ?_
  exact s_if_eq (tgt := 35) dX12_isWhere_28 (by decide) r1 kt kf
theorem bX12_isWhere_31 {fr M1 M2 b1 b2 : Nat} {Q : RS → Nat → AH → Prop} {h : AH} {x0 x1 x2 x3 : AV}   (kk : Wp mX12_isWhere (kR fr M1 M2) Q (b1, b2) 36 [none, none, none, none] [zI 1, zR 98] 137 h) : Wp mX12_isWhere (kR fr M1 M2) Q (b1, b2) 31 [x0, x1, x2, x3] [zR 98] 137 h := by
  refine s_fgt (fgt_n _ (fgt_n _ (fgt_n _ (fgt_n _ fgt_0)))) ?_
  refine s_iconst dX12_isWhere_31 ?_
  exact s_goto (tgt := 36) dX12_isWhere_32 (by decide) kk
theorem bX12_isWhere_35 {fr M1 M2 b1 b2 : Nat} {Q : RS → Nat → AH → Prop} {h : AH} {x0 x1 x2 x3 : AV}   (kk : Wp mX12_isWhere (kR fr M1 M2) Q (b1, b2) 36 [none, none, none, none] [zI 0, zR 98] 137 h) : Wp mX12_isWhere (kR fr M1 M2) Q (b1, b2) 35 [x0, x1, x2, x3] [zR 98] 137 h := by
  refine s_fgt (fgt_n _ (fgt_n _ (fgt_n _ (fgt_n _ fgt_0)))) ?_
  refine s_iconst dX12_isWhere_35 ?_
  exact kk
theorem bX12_isWhere_36 {fr M1 M2 b1 b2 : Nat} {Q : RS → Nat → AH → Prop} {h : AH} {s0 : Int} {x0 x1 x2 x3 : AV} {R : Int → AH → Prop}   (hS : Sp mX12_right true (fr - 1) 0 0 [zR 98, zI s0, zI 1] 137 h (rI R)) (hf : 1 ≤ fr := by omega) (kk : ∀ (x : Int) (h' : AH), R x h' → Wp mX12_isWhere (kR fr M1 M2) Q (b1, b2) 40 [none, none, none, none] [zI x] 137 h') : Wp mX12_isWhere (kR fr M1 M2) Q (b1, b2) 36 [x0, x1, x2, x3] [zI s0, zR 98] 137 h := by
  refine s_fgt (fgt_n _ (fgt_n _ (fgt_n _ (fgt_n _ fgt_0)))) ?_
  refine s_iconst dX12_isWhere_36 ?_
  exact s_callV (as := [zI s0, zI 1]) (st := []) (o := 98) dX12_isWhere_37 kX12_260 rfl ⟨12, 87, TX12, e98, rfl, by decide⟩ rfl rfl (Nat.le_of_ble_eq_true rfl) hS (show fr - 1 + 1 ≤ fr by omega) (Nat.zero_le _) (Nat.zero_le _) (fun v n' h' hP _ => by obtain ⟨x, e, rfl, hR⟩ := hP; cases e; exact kk x h' hR) (fun E n' h' _ z => (rI_nt _ _ _ z).elim)
theorem bX12_isWhere_40 {fr M1 M2 b1 b2 : Nat} {Q : RS → Nat → AH → Prop} {h : AH} {s0 : Int} {x0 x1 x2 x3 : AV}  (r1 : s0 = 0 ∨ s0 = 1 := by omega) (hq : Q (.inl (some (zI s0))) 137 h) : Wp mX12_isWhere (kR fr M1 M2) Q (b1, b2) 40 [x0, x1, x2, x3] [zI s0] 137 h := by
  refine s_fgt (fgt_n _ (fgt_n _ (fgt_n _ (fgt_n _ fgt_0)))) ?_
  exact s_ireturn dX12_isWhere_40 ⟨.boolean, rfl, bool_nar r1⟩ hq (fun z => by cases z)
theorem dX12_allSaid_0 : decode mX12_allSaid.cd 0 = .ok (.aload_n 0, 1) := by decide +kernel
theorem dX12_allSaid_1 : decode mX12_allSaid.cd 1 = .ok (.iload_n 1, 1) := by decide +kernel
theorem dX12_allSaid_2 : decode mX12_allSaid.cd 2 = .ok (.iload_n 2, 1) := by decide +kernel
theorem dX12_allSaid_3 : decode mX12_allSaid.cd 3 = .ok (.iload_n 3, 1) := by decide +kernel
theorem dX12_allSaid_4 : decode mX12_allSaid.cd 4 = .ok (.invokevirtual 328, 3) := by decide +kernel
theorem dX12_allSaid_7 : decode mX12_allSaid.cd 7 = .ok (.iconst 0, 1) := by decide +kernel
theorem dX12_allSaid_8 : decode mX12_allSaid.cd 8 = .ok (.istore 4, 2) := by decide +kernel
theorem dX12_allSaid_10 : decode mX12_allSaid.cd 10 = .ok (.iload 4, 2) := by decide +kernel
theorem dX12_allSaid_12 : decode mX12_allSaid.cd 12 = .ok (.aload_n 0, 1) := by decide +kernel
theorem dX12_allSaid_13 : decode mX12_allSaid.cd 13 = .ok (.getfield 289, 3) := by decide +kernel
theorem dX12_allSaid_16 : decode mX12_allSaid.cd 16 = .ok (.if_icmp .ge 27, 3) := by decide +kernel
theorem dX12_allSaid_19 : decode mX12_allSaid.cd 19 = .ok (.aload_n 0, 1) := by decide +kernel
theorem dX12_allSaid_20 : decode mX12_allSaid.cd 20 = .ok (.aload_n 0, 1) := by decide +kernel
theorem dX12_allSaid_21 : decode mX12_allSaid.cd 21 = .ok (.getfield 71, 3) := by decide +kernel
theorem dX12_allSaid_24 : decode mX12_allSaid.cd 24 = .ok (.iload 4, 2) := by decide +kernel
theorem dX12_allSaid_26 : decode mX12_allSaid.cd 26 = .ok (.iaload, 1) := by decide +kernel
theorem dX12_allSaid_27 : decode mX12_allSaid.cd 27 = .ok (.aload_n 0, 1) := by decide +kernel
theorem dX12_allSaid_28 : decode mX12_allSaid.cd 28 = .ok (.getfield 74, 3) := by decide +kernel
theorem dX12_allSaid_31 : decode mX12_allSaid.cd 31 = .ok (.iload 4, 2) := by decide +kernel
theorem dX12_allSaid_33 : decode mX12_allSaid.cd 33 = .ok (.iaload, 1) := by decide +kernel
theorem dX12_allSaid_34 : decode mX12_allSaid.cd 34 = .ok (.invokevirtual 331, 3) := by decide +kernel
theorem dX12_allSaid_37 : decode mX12_allSaid.cd 37 = .ok (.iinc 4 1, 3) := by decide +kernel
theorem dX12_allSaid_40 : decode mX12_allSaid.cd 40 = .ok (.goto (-30), 3) := by decide +kernel
theorem dX12_allSaid_43 : decode mX12_allSaid.cd 43 = .ok (.return_, 1) := by decide +kernel
theorem bX12_allSaid_0 {fr M1 M2 b1 b2 : Nat} {Q : RS → Nat → AH → Prop} {h : AH} {l1 l2 l3 : Int} {x4 : AV} {R : AH → Prop}   (hS : Sp mX12_opens true (fr - 1) 0 0 [zR 98, zI l1, zI l2, zI l3] 137 h (rV R)) (hf : 1 ≤ fr := by omega) (kk : ∀ h' : AH, R h' → Wp mX12_allSaid (kR fr M1 M2) Q (b1, b2) 7 [zR 98, zI l1, zI l2, zI l3, none] [] 137 h') : Wp mX12_allSaid (kR fr M1 M2) Q (b1, b2) 0 [zR 98, zI l1, zI l2, zI l3, x4] [] 137 h := by
  refine s_fgt (fgt_c (fgt_c (fgt_c (fgt_c (fgt_n _ fgt_0))))) ?_
  refine s_aload_n (x := 98) dX12_allSaid_0 rfl ?_
  refine s_iload_n (x := l1) dX12_allSaid_1 rfl ?_
  refine s_iload_n (x := l2) dX12_allSaid_2 rfl ?_
  refine s_iload_n (x := l3) dX12_allSaid_3 rfl ?_
  exact s_callV (as := [zI l1, zI l2, zI l3]) (st := []) (o := 98) dX12_allSaid_4 kX12_328 rfl ⟨12, 87, TX12, e98, rfl, by decide⟩ rfl rfl (Nat.le_of_ble_eq_true rfl) hS (show fr - 1 + 1 ≤ fr by omega) (Nat.zero_le _) (Nat.zero_le _) (fun v n' h' hP _ => by obtain ⟨e, rfl, hR⟩ := hP; cases e; exact kk h' hR) (fun E n' h' _ z => (rV_nt _ _ _ z).elim)
theorem bX12_allSaid_7 {fr M1 M2 b1 b2 : Nat} {Q : RS → Nat → AH → Prop} {h : AH} {x1 x2 x3 x4 : AV}   (kk : Wp mX12_allSaid (kR fr M1 M2) Q (b1, b2) 10 [zR 98, none, none, none, zI 0] [] 137 h) : Wp mX12_allSaid (kR fr M1 M2) Q (b1, b2) 7 [zR 98, x1, x2, x3, x4] [] 137 h := by
  refine s_fgt (fgt_c (fgt_n _ (fgt_n _ (fgt_n _ (fgt_n _ fgt_0))))) ?_
  refine s_iconst dX12_allSaid_7 ?_
  refine s_istore dX12_allSaid_8 rfl (by decide) ?_
  exact kk
theorem bX12_allSaid_10 {fr M1 M2 b1 b2 : Nat} {Q : RS → Nat → AH → Prop} {h : AH} {l4 : Int} {x1 x2 x3 : AV}  (r1 : -2147483648 ≤ l4 ∧ l4 < 2147483648 := by omega) (r2 : -2147483648 ≤ h 98 50 ∧ h 98 50 < 2147483648 := by omega) (kt : h 98 50 ≤ l4 → Wp mX12_allSaid (kR fr M1 M2) Q (b1, b2) 43 [zR 98, none, none, none, zI l4] [] 137 h) (kf : l4 < h 98 50 → Wp mX12_allSaid (kR fr M1 M2) Q (b1, b2) 19 [zR 98, none, none, none, zI l4] [] 137 h) : Wp mX12_allSaid (kR fr M1 M2) Q (b1, b2) 10 [zR 98, x1, x2, x3, zI l4] [] 137 h := by
  refine s_fgt (fgt_c (fgt_n _ (fgt_n _ (fgt_n _ (fgt_c fgt_0))))) ?_
  refine s_iload (x := l4) dX12_allSaid_10 rfl ?_
  refine s_aload_n (x := 98) dX12_allSaid_12 rfl ?_
  refine s_get (c := 98) dX12_allSaid_13 lX12_289 e98 (by decide) ?_
  exact s_icmp_ge (tgt := 43) dX12_allSaid_16 (by decide) r1 r2 kt kf
theorem bX12_allSaid_19 {fr M1 M2 b1 b2 : Nat} {Q : RS → Nat → AH → Prop} {h : AH} {l4 : Int} {x1 x2 x3 : AV} {R : AH → Prop}  (r1 : 0 ≤ l4 ∧ l4 < 200 := by omega) (hS : Sp mX12_says true (fr - 1) 0 0 [zR 98, zI (h 116 l4), zI (h 117 l4)] 137 h (rV R)) (hf : 1 ≤ fr := by omega) (kk : ∀ h' : AH, R h' → Wp mX12_allSaid (kR fr M1 M2) Q (b1, b2) 37 [zR 98, none, none, none, zI l4] [] 137 h') : Wp mX12_allSaid (kR fr M1 M2) Q (b1, b2) 19 [zR 98, x1, x2, x3, zI l4] [] 137 h := by
  refine s_fgt (fgt_c (fgt_n _ (fgt_n _ (fgt_n _ (fgt_c fgt_0))))) ?_
  refine s_aload_n (x := 98) dX12_allSaid_19 rfl ?_
  refine s_aload_n (x := 98) dX12_allSaid_20 rfl ?_
  refine s_getFd (c := 98) (d := 116) dX12_allSaid_21 lX12_71 e98 (Or.inl rfl) (by decide) (by decide) ?_
  refine s_iload (x := l4) dX12_allSaid_24 rfl ?_
  refine s_iald (c := 116) (i := l4) dX12_allSaid_26 e116 r1.1 r1.2 ?_
  refine s_aload_n (x := 98) dX12_allSaid_27 rfl ?_
  refine s_getFd (c := 98) (d := 117) dX12_allSaid_28 lX12_74 e98 (Or.inl rfl) (by decide) (by decide) ?_
  refine s_iload (x := l4) dX12_allSaid_31 rfl ?_
  refine s_iald (c := 117) (i := l4) dX12_allSaid_33 e117 r1.1 r1.2 ?_
  exact s_callV (as := [zI (h 116 l4), zI (h 117 l4)]) (st := []) (o := 98) dX12_allSaid_34 kX12_331 rfl ⟨12, 87, TX12, e98, rfl, by decide⟩ rfl rfl (Nat.le_of_ble_eq_true rfl) hS (show fr - 1 + 1 ≤ fr by omega) (Nat.zero_le _) (Nat.zero_le _) (fun v n' h' hP _ => by obtain ⟨e, rfl, hR⟩ := hP; cases e; exact kk h' hR) (fun E n' h' _ z => (rV_nt _ _ _ z).elim)
theorem bX12_allSaid_37 {fr M1 M2 b1 b2 : Nat} {Q : RS → Nat → AH → Prop} {h : AH} {l4 : Int} {x1 x2 x3 : AV}   (kk : Wp mX12_allSaid (kR fr M1 M2) Q (b1, b2) 10 [zR 98, none, none, none, zI (l4 + 1)] [] 137 h) : Wp mX12_allSaid (kR fr M1 M2) Q (b1, b2) 37 [zR 98, x1, x2, x3, zI l4] [] 137 h := by
  refine s_fgt (fgt_c (fgt_n _ (fgt_n _ (fgt_n _ (fgt_c fgt_0))))) ?_
  refine s_iinc (x := l4) dX12_allSaid_37 rfl rfl (by decide) ?_
  exact s_goto (tgt := 10) dX12_allSaid_40 (by decide) kk
theorem bX12_allSaid_43 {fr M1 M2 b1 b2 : Nat} {Q : RS → Nat → AH → Prop} {h : AH} {x0 x1 x2 x3 x4 : AV}   (hq : Q (.inl none) 137 h) : Wp mX12_allSaid (kR fr M1 M2) Q (b1, b2) 43 [x0, x1, x2, x3, x4] [] 137 h := by
  refine s_fgt (fgt_n _ (fgt_n _ (fgt_n _ (fgt_n _ (fgt_n _ fgt_0))))) ?_
  exact s_return dX12_allSaid_43 rfl hq (fun z => by cases z)
theorem dX12_heard_0 : decode mX12_heard.cd 0 = .ok (.aload_n 0, 1) := by decide +kernel
theorem dX12_heard_1 : decode mX12_heard.cd 1 = .ok (.iconst 0, 1) := by decide +kernel
theorem dX12_heard_2 : decode mX12_heard.cd 2 = .ok (.putfield 136, 3) := by decide +kernel
theorem dX12_heard_5 : decode mX12_heard.cd 5 = .ok (.aload_n 0, 1) := by decide +kernel
theorem dX12_heard_6 : decode mX12_heard.cd 6 = .ok (.iload_n 1, 1) := by decide +kernel
theorem dX12_heard_7 : decode mX12_heard.cd 7 = .ok (.iload_n 2, 1) := by decide +kernel
theorem dX12_heard_8 : decode mX12_heard.cd 8 = .ok (.iload_n 3, 1) := by decide +kernel
theorem dX12_heard_9 : decode mX12_heard.cd 9 = .ok (.invokevirtual 335, 3) := by decide +kernel
theorem dX12_heard_12 : decode mX12_heard.cd 12 = .ok (.ifCond .ne 5, 3) := by decide +kernel
theorem dX12_heard_15 : decode mX12_heard.cd 15 = .ok (.iconst 0, 1) := by decide +kernel
theorem dX12_heard_16 : decode mX12_heard.cd 16 = .ok (.ireturn, 1) := by decide +kernel
theorem dX12_heard_17 : decode mX12_heard.cd 17 = .ok (.aload_n 0, 1) := by decide +kernel
theorem dX12_heard_18 : decode mX12_heard.cd 18 = .ok (.sipush 400, 3) := by decide +kernel
theorem dX12_heard_21 : decode mX12_heard.cd 21 = .ok (.iload_n 1, 1) := by decide +kernel
theorem dX12_heard_22 : decode mX12_heard.cd 22 = .ok (.iload_n 2, 1) := by decide +kernel
theorem dX12_heard_23 : decode mX12_heard.cd 23 = .ok (.invokevirtual 338, 3) := by decide +kernel
theorem dX12_heard_26 : decode mX12_heard.cd 26 = .ok (.aload_n 0, 1) := by decide +kernel
theorem dX12_heard_27 : decode mX12_heard.cd 27 = .ok (.iload_n 3, 1) := by decide +kernel
theorem dX12_heard_28 : decode mX12_heard.cd 28 = .ok (.invokevirtual 341, 3) := by decide +kernel
theorem dX12_heard_31 : decode mX12_heard.cd 31 = .ok (.ireturn, 1) := by decide +kernel
theorem bX12_heard_0 {fr M1 M2 b1 b2 : Nat} {Q : RS → Nat → AH → Prop} {h : AH} {l1 l2 l3 : Int} {R : Int → AH → Prop}   (hS : Sp mX12_isWhere true (fr - 1) 0 0 [zR 98, zI l1, zI l2, zI l3] 137 (up h 98 0 0) (rI R)) (hf : 1 ≤ fr := by omega) (kk : ∀ (x : Int) (h' : AH), R x h' → Wp mX12_heard (kR fr M1 M2) Q (b1, b2) 12 [zR 98, zI l1, zI l2, zI l3] [zI x] 137 h') : Wp mX12_heard (kR fr M1 M2) Q (b1, b2) 0 [zR 98, zI l1, zI l2, zI l3] [] 137 h := by
  refine s_aload_n (x := 98) dX12_heard_0 rfl ?_
  refine s_iconst dX12_heard_1 ?_
  refine s_put (c := 98) dX12_heard_2 lX12_136 e98 ?_
  refine s_aload_n (x := 98) dX12_heard_5 rfl ?_
  refine s_iload_n (x := l1) dX12_heard_6 rfl ?_
  refine s_iload_n (x := l2) dX12_heard_7 rfl ?_
  refine s_iload_n (x := l3) dX12_heard_8 rfl ?_
  exact s_callV (as := [zI l1, zI l2, zI l3]) (st := []) (o := 98) dX12_heard_9 kX12_335 rfl ⟨12, 87, TX12, e98, rfl, by decide⟩ rfl rfl (Nat.le_of_ble_eq_true rfl) hS (show fr - 1 + 1 ≤ fr by omega) (Nat.zero_le _) (Nat.zero_le _) (fun v n' h' hP _ => by obtain ⟨x, e, rfl, hR⟩ := hP; cases e; exact kk x h' hR) (fun E n' h' _ z => (rI_nt _ _ _ z).elim)
theorem bX12_heard_12 {fr M1 M2 b1 b2 : Nat} {Q : RS → Nat → AH → Prop} {h : AH} {l1 l2 l3 s0 : Int}  (r1 : -2147483648 ≤ s0 ∧ s0 < 2147483648 := by omega) (kt : ¬ s0 = 0 → Wp mX12_heard (kR fr M1 M2) Q (b1, b2) 17 [zR 98, zI l1, zI l2, zI l3] [] 137 h) (kf : s0 = 0 → Wp mX12_heard (kR fr M1 M2) Q (b1, b2) 15 [zR 98, zI l1, zI l2, zI l3] [] 137 h) : Wp mX12_heard (kR fr M1 M2) Q (b1, b2) 12 [zR 98, zI l1, zI l2, zI l3] [zI s0] 137 h := by
  exact s_if_ne (tgt := 17) dX12_heard_12 (by decide) r1 kt kf
theorem bX12_heard_15 {fr M1 M2 b1 b2 : Nat} {Q : RS → Nat → AH → Prop} {h : AH} {x0 x1 x2 x3 : AV}   (hq : Q (.inl (some (zI 0))) 137 h) : Wp mX12_heard (kR fr M1 M2) Q (b1, b2) 15 [x0, x1, x2, x3] [] 137 h := by
  refine s_fgt (fgt_n _ (fgt_n _ (fgt_n _ (fgt_n _ fgt_0)))) ?_
  refine s_iconst dX12_heard_15 ?_
  exact s_ireturn dX12_heard_16 ⟨.int, rfl, rfl⟩ hq (fun z => by cases z)
theorem bX12_heard_17 {fr M1 M2 b1 b2 : Nat} {Q : RS → Nat → AH → Prop} {h : AH} {l1 l2 l3 : Int} {R : AH → Prop}   (hS : Sp mX12_allSaid true (fr - 1) 0 0 [zR 98, zI 400, zI l1, zI l2] 137 h (rV R)) (hf : 1 ≤ fr := by omega) (kk : ∀ h' : AH, R h' → Wp mX12_heard (kR fr M1 M2) Q (b1, b2) 26 [zR 98, zI l1, zI l2, zI l3] [] 137 h') : Wp mX12_heard (kR fr M1 M2) Q (b1, b2) 17 [zR 98, zI l1, zI l2, zI l3] [] 137 h := by
  refine s_aload_n (x := 98) dX12_heard_17 rfl ?_
  refine s_sipush dX12_heard_18 (by decide) ?_
  refine s_iload_n (x := l1) dX12_heard_21 rfl ?_
  refine s_iload_n (x := l2) dX12_heard_22 rfl ?_
  exact s_callV (as := [zI 400, zI l1, zI l2]) (st := []) (o := 98) dX12_heard_23 kX12_338 rfl ⟨12, 87, TX12, e98, rfl, by decide⟩ rfl rfl (Nat.le_of_ble_eq_true rfl) hS (show fr - 1 + 1 ≤ fr by omega) (Nat.zero_le _) (Nat.zero_le _) (fun v n' h' hP _ => by obtain ⟨e, rfl, hR⟩ := hP; cases e; exact kk h' hR) (fun E n' h' _ z => (rV_nt _ _ _ z).elim)
theorem bX12_heard_26 {fr M1 M2 b1 b2 : Nat} {Q : RS → Nat → AH → Prop} {h : AH} {l3 : Int} {x1 x2 : AV} {R : Int → AH → Prop}   (hS : Sp mX12_hears true (fr - 1) 0 0 [zR 98, zI l3] 137 h (rI R)) (hf : 1 ≤ fr := by omega) (kk : ∀ (x : Int) (h' : AH), R x h' → Wp mX12_heard (kR fr M1 M2) Q (b1, b2) 31 [zR 98, none, none, zI l3] [zI x] 137 h') : Wp mX12_heard (kR fr M1 M2) Q (b1, b2) 26 [zR 98, x1, x2, zI l3] [] 137 h := by
  refine s_fgt (fgt_c (fgt_n _ (fgt_n _ (fgt_c fgt_0)))) ?_
  refine s_aload_n (x := 98) dX12_heard_26 rfl ?_
  refine s_iload_n (x := l3) dX12_heard_27 rfl ?_
  exact s_callV (as := [zI l3]) (st := []) (o := 98) dX12_heard_28 kX12_341 rfl ⟨12, 87, TX12, e98, rfl, by decide⟩ rfl rfl (Nat.le_of_ble_eq_true rfl) hS (show fr - 1 + 1 ≤ fr by omega) (Nat.zero_le _) (Nat.zero_le _) (fun v n' h' hP _ => by obtain ⟨x, e, rfl, hR⟩ := hP; cases e; exact kk x h' hR) (fun E n' h' _ z => (rI_nt _ _ _ z).elim)
theorem bX12_heard_31 {fr M1 M2 b1 b2 : Nat} {Q : RS → Nat → AH → Prop} {h : AH} {s0 : Int} {x0 x1 x2 x3 : AV}   (hq : Q (.inl (some (zI s0))) 137 h) : Wp mX12_heard (kR fr M1 M2) Q (b1, b2) 31 [x0, x1, x2, x3] [zI s0] 137 h := by
  refine s_fgt (fgt_n _ (fgt_n _ (fgt_n _ (fgt_n _ fgt_0)))) ?_
  exact s_ireturn dX12_heard_31 ⟨.int, rfl, rfl⟩ hq (fun z => by cases z)
theorem dX12_loud_0 : decode mX12_loud.cd 0 = .ok (.aload_n 0, 1) := by decide +kernel
theorem dX12_loud_1 : decode mX12_loud.cd 1 = .ok (.iconst 0, 1) := by decide +kernel
theorem dX12_loud_2 : decode mX12_loud.cd 2 = .ok (.putfield 136, 3) := by decide +kernel
theorem dX12_loud_5 : decode mX12_loud.cd 5 = .ok (.aload_n 0, 1) := by decide +kernel
theorem dX12_loud_6 : decode mX12_loud.cd 6 = .ok (.iload_n 1, 1) := by decide +kernel
theorem dX12_loud_7 : decode mX12_loud.cd 7 = .ok (.iload_n 2, 1) := by decide +kernel
theorem dX12_loud_8 : decode mX12_loud.cd 8 = .ok (.iload_n 3, 1) := by decide +kernel
theorem dX12_loud_9 : decode mX12_loud.cd 9 = .ok (.invokevirtual 335, 3) := by decide +kernel
theorem dX12_loud_12 : decode mX12_loud.cd 12 = .ok (.ifCond .eq 12, 3) := by decide +kernel
theorem dX12_loud_15 : decode mX12_loud.cd 15 = .ok (.aload_n 0, 1) := by decide +kernel
theorem dX12_loud_16 : decode mX12_loud.cd 16 = .ok (.iload 4, 2) := by decide +kernel
theorem dX12_loud_18 : decode mX12_loud.cd 18 = .ok (.invokevirtual 325, 3) := by decide +kernel
theorem dX12_loud_21 : decode mX12_loud.cd 21 = .ok (.ifCond .ne 5, 3) := by decide +kernel
theorem dX12_loud_24 : decode mX12_loud.cd 24 = .ok (.iconst 0, 1) := by decide +kernel
theorem dX12_loud_25 : decode mX12_loud.cd 25 = .ok (.ireturn, 1) := by decide +kernel
theorem dX12_loud_26 : decode mX12_loud.cd 26 = .ok (.aload_n 0, 1) := by decide +kernel
theorem dX12_loud_27 : decode mX12_loud.cd 27 = .ok (.sipush 400, 3) := by decide +kernel
theorem dX12_loud_30 : decode mX12_loud.cd 30 = .ok (.iload_n 1, 1) := by decide +kernel
theorem dX12_loud_31 : decode mX12_loud.cd 31 = .ok (.iload_n 2, 1) := by decide +kernel
theorem dX12_loud_32 : decode mX12_loud.cd 32 = .ok (.invokevirtual 338, 3) := by decide +kernel
theorem dX12_loud_35 : decode mX12_loud.cd 35 = .ok (.aload_n 0, 1) := by decide +kernel
theorem dX12_loud_36 : decode mX12_loud.cd 36 = .ok (.getfield 65, 3) := by decide +kernel
theorem dX12_loud_39 : decode mX12_loud.cd 39 = .ok (.bipush 8, 2) := by decide +kernel
theorem dX12_loud_41 : decode mX12_loud.cd 41 = .ok (.iload_n 3, 1) := by decide +kernel
theorem dX12_loud_42 : decode mX12_loud.cd 42 = .ok (.imul, 1) := by decide +kernel
theorem dX12_loud_43 : decode mX12_loud.cd 43 = .ok (.iload 4, 2) := by decide +kernel
theorem dX12_loud_45 : decode mX12_loud.cd 45 = .ok (.iadd, 1) := by decide +kernel
theorem dX12_loud_46 : decode mX12_loud.cd 46 = .ok (.iaload, 1) := by decide +kernel
theorem dX12_loud_47 : decode mX12_loud.cd 47 = .ok (.ireturn, 1) := by decide +kernel
theorem bX12_loud_0 {fr M1 M2 b1 b2 : Nat} {Q : RS → Nat → AH → Prop} {h : AH} {l1 l2 l3 l4 : Int} {R : Int → AH → Prop}   (hS : Sp mX12_isWhere true (fr - 1) 0 0 [zR 98, zI l1, zI l2, zI l3] 137 (up h 98 0 0) (rI R)) (hf : 1 ≤ fr := by omega) (kk : ∀ (x : Int) (h' : AH), R x h' → Wp mX12_loud (kR fr M1 M2) Q (b1, b2) 12 [zR 98, zI l1, zI l2, zI l3, zI l4] [zI x] 137 h') : Wp mX12_loud (kR fr M1 M2) Q (b1, b2) 0 [zR 98, zI l1, zI l2, zI l3, zI l4] [] 137 h := by
  refine s_aload_n (x := 98) dX12_loud_0 rfl ?_
  refine s_iconst dX12_loud_1 ?_
  refine s_put (c := 98) dX12_loud_2 lX12_136 e98 ?_
  refine s_aload_n (x := 98) dX12_loud_5 rfl ?_
  refine s_iload_n (x := l1) dX12_loud_6 rfl ?_
  refine s_iload_n (x := l2) dX12_loud_7 rfl ?_
  refine s_iload_n (x := l3) dX12_loud_8 rfl ?_
  exact s_callV (as := [zI l1, zI l2, zI l3]) (st := []) (o := 98) dX12_loud_9 kX12_335 rfl ⟨12, 87, TX12, e98, rfl, by decide⟩ rfl rfl (Nat.le_of_ble_eq_true rfl) hS (show fr - 1 + 1 ≤ fr by omega) (Nat.zero_le _) (Nat.zero_le _) (fun v n' h' hP _ => by obtain ⟨x, e, rfl, hR⟩ := hP; cases e; exact kk x h' hR) (fun E n' h' _ z => (rI_nt _ _ _ z).elim)
theorem bX12_loud_12 {fr M1 M2 b1 b2 : Nat} {Q : RS → Nat → AH → Prop} {h : AH} {l1 l2 l3 l4 s0 : Int}  (r1 : -2147483648 ≤ s0 ∧ s0 < 2147483648 := by omega) (kt : s0 = 0 → Wp mX12_loud (kR fr M1 M2) Q (b1, b2) 24 [zR 98, zI l1, zI l2, zI l3, zI l4] [] 137 h) (kf : ¬ s0 = 0 → Wp mX12_loud (kR fr M1 M2) Q (b1, b2) 15 [zR 98, zI l1, zI l2, zI l3, zI l4] [] 137 h) : Wp mX12_loud (kR fr M1 M2) Q (b1, b2) 12 [zR 98, zI l1, zI l2, zI l3, zI l4] [zI s0] 137 h := by
  exact s_if_eq (tgt := 24) dX12_loud_12 (by decide) r1 kt kf
theorem bX12_loud_15 {fr M1 M2 b1 b2 : Nat} {Q : RS → Nat → AH → Prop} {h : AH} {l1 l2 l3 l4 : Int} {R : Int → AH → Prop}   (hS : Sp mX12_isSound true (fr - 1) 0 0 [zR 98, zI l4] 137 h (rI R)) (hf : 1 ≤ fr := by omega) (kk : ∀ (x : Int) (h' : AH), R x h' → Wp mX12_loud (kR fr M1 M2) Q (b1, b2) 21 [zR 98, zI l1, zI l2, zI l3, zI l4] [zI x] 137 h') : Wp mX12_loud (kR fr M1 M2) Q (b1, b2) 15 [zR 98, zI l1, zI l2, zI l3, zI l4] [] 137 h := by
  refine s_aload_n (x := 98) dX12_loud_15 rfl ?_
  refine s_iload (x := l4) dX12_loud_16 rfl ?_
  exact s_callV (as := [zI l4]) (st := []) (o := 98) dX12_loud_18 kX12_325 rfl ⟨12, 87, TX12, e98, rfl, by decide⟩ rfl rfl (Nat.le_of_ble_eq_true rfl) hS (show fr - 1 + 1 ≤ fr by omega) (Nat.zero_le _) (Nat.zero_le _) (fun v n' h' hP _ => by obtain ⟨x, e, rfl, hR⟩ := hP; cases e; exact kk x h' hR) (fun E n' h' _ z => (rI_nt _ _ _ z).elim)
theorem bX12_loud_21 {fr M1 M2 b1 b2 : Nat} {Q : RS → Nat → AH → Prop} {h : AH} {l1 l2 l3 l4 s0 : Int}  (r1 : -2147483648 ≤ s0 ∧ s0 < 2147483648 := by omega) (kt : ¬ s0 = 0 → Wp mX12_loud (kR fr M1 M2) Q (b1, b2) 26 [zR 98, zI l1, zI l2, zI l3, zI l4] [] 137 h) (kf : s0 = 0 → Wp mX12_loud (kR fr M1 M2) Q (b1, b2) 24 [zR 98, zI l1, zI l2, zI l3, zI l4] [] 137 h) : Wp mX12_loud (kR fr M1 M2) Q (b1, b2) 21 [zR 98, zI l1, zI l2, zI l3, zI l4] [zI s0] 137 h := by
  exact s_if_ne (tgt := 26) dX12_loud_21 (by decide) r1 kt kf
theorem bX12_loud_24 {fr M1 M2 b1 b2 : Nat} {Q : RS → Nat → AH → Prop} {h : AH} {x0 x1 x2 x3 x4 : AV}   (hq : Q (.inl (some (zI 0))) 137 h) : Wp mX12_loud (kR fr M1 M2) Q (b1, b2) 24 [x0, x1, x2, x3, x4] [] 137 h := by
  refine s_fgt (fgt_n _ (fgt_n _ (fgt_n _ (fgt_n _ (fgt_n _ fgt_0))))) ?_
  refine s_iconst dX12_loud_24 ?_
  exact s_ireturn dX12_loud_25 ⟨.int, rfl, rfl⟩ hq (fun z => by cases z)
theorem bX12_loud_26 {fr M1 M2 b1 b2 : Nat} {Q : RS → Nat → AH → Prop} {h : AH} {l1 l2 l3 l4 : Int} {R : AH → Prop}   (hS : Sp mX12_allSaid true (fr - 1) 0 0 [zR 98, zI 400, zI l1, zI l2] 137 h (rV R)) (hf : 1 ≤ fr := by omega) (kk : ∀ h' : AH, R h' → Wp mX12_loud (kR fr M1 M2) Q (b1, b2) 35 [zR 98, zI l1, zI l2, zI l3, zI l4] [] 137 h') : Wp mX12_loud (kR fr M1 M2) Q (b1, b2) 26 [zR 98, zI l1, zI l2, zI l3, zI l4] [] 137 h := by
  refine s_aload_n (x := 98) dX12_loud_26 rfl ?_
  refine s_sipush dX12_loud_27 (by decide) ?_
  refine s_iload_n (x := l1) dX12_loud_30 rfl ?_
  refine s_iload_n (x := l2) dX12_loud_31 rfl ?_
  exact s_callV (as := [zI 400, zI l1, zI l2]) (st := []) (o := 98) dX12_loud_32 kX12_338 rfl ⟨12, 87, TX12, e98, rfl, by decide⟩ rfl rfl (Nat.le_of_ble_eq_true rfl) hS (show fr - 1 + 1 ≤ fr by omega) (Nat.zero_le _) (Nat.zero_le _) (fun v n' h' hP _ => by obtain ⟨e, rfl, hR⟩ := hP; cases e; exact kk h' hR) (fun E n' h' _ z => (rV_nt _ _ _ z).elim)
theorem bX12_loud_35 {fr M1 M2 b1 b2 : Nat} {Q : RS → Nat → AH → Prop} {h : AH} {l3 l4 : Int} {x1 x2 : AV}  (r1 : 0 ≤ (8 * l3) + l4 ∧ (8 * l3) + l4 < 3200 := by omega) (hq : Q (.inl (some (zI (h 115 ((8 * l3) + l4))))) 137 h) : Wp mX12_loud (kR fr M1 M2) Q (b1, b2) 35 [zR 98, x1, x2, zI l3, zI l4] [] 137 h := by
  refine s_fgt (fgt_c (fgt_n _ (fgt_n _ (fgt_c (fgt_c fgt_0))))) ?_
  refine s_aload_n (x := 98) dX12_loud_35 rfl ?_
  refine s_getFd (c := 98) (d := 115) dX12_loud_36 lX12_65 e98 (Or.inl rfl) (by decide) (by decide) ?_
  refine s_bipush dX12_loud_39 (by decide) ?_
  refine s_iload_n (x := l3) dX12_loud_41 rfl ?_
  refine s_imul dX12_loud_42 ?_
  refine s_iload (x := l4) dX12_loud_43 rfl ?_
  refine s_iadd dX12_loud_45 ?_
  refine s_iald (c := 115) (i := (8 * l3) + l4) dX12_loud_46 e115 r1.1 r1.2 ?_
  exact s_ireturn dX12_loud_47 ⟨.int, rfl, rfl⟩ hq (fun z => by cases z)
theorem dX12_kindOf_0 : decode mX12_kindOf.cd 0 = .ok (.aload_n 0, 1) := by decide +kernel
theorem dX12_kindOf_1 : decode mX12_kindOf.cd 1 = .ok (.getfield 23, 3) := by decide +kernel
theorem dX12_kindOf_4 : decode mX12_kindOf.cd 4 = .ok (.iconst 4, 1) := by decide +kernel
theorem dX12_kindOf_5 : decode mX12_kindOf.cd 5 = .ok (.iload_n 1, 1) := by decide +kernel
theorem dX12_kindOf_6 : decode mX12_kindOf.cd 6 = .ok (.imul, 1) := by decide +kernel
theorem dX12_kindOf_7 : decode mX12_kindOf.cd 7 = .ok (.iconst 1, 1) := by decide +kernel
theorem dX12_kindOf_8 : decode mX12_kindOf.cd 8 = .ok (.iadd, 1) := by decide +kernel
theorem dX12_kindOf_9 : decode mX12_kindOf.cd 9 = .ok (.iload_n 2, 1) := by decide +kernel
theorem dX12_kindOf_10 : decode mX12_kindOf.cd 10 = .ok (.iadd, 1) := by decide +kernel
theorem dX12_kindOf_11 : decode mX12_kindOf.cd 11 = .ok (.iaload, 1) := by decide +kernel
theorem dX12_kindOf_12 : decode mX12_kindOf.cd 12 = .ok (.ireturn, 1) := by decide +kernel
theorem bX12_kindOf_0 {fr M1 M2 b1 b2 : Nat} {Q : RS → Nat → AH → Prop} {h : AH} {l1 l2 : Int}  (r1 : 0 ≤ ((4 * l1) + 1) + l2 ∧ ((4 * l1) + 1) + l2 < 24 := by omega) (hq : Q (.inl (some (zI (h 102 (((4 * l1) + 1) + l2))))) 137 h) : Wp mX12_kindOf (kR fr M1 M2) Q (b1, b2) 0 [zR 98, zI l1, zI l2] [] 137 h := by
  refine s_aload_n (x := 98) dX12_kindOf_0 rfl ?_
  refine s_getFd (c := 98) (d := 102) dX12_kindOf_1 lX12_23 e98 (Or.inl rfl) (by decide) (by decide) ?_
  refine s_iconst dX12_kindOf_4 ?_
  refine s_iload_n (x := l1) dX12_kindOf_5 rfl ?_
  refine s_imul dX12_kindOf_6 ?_
  refine s_iconst dX12_kindOf_7 ?_
  refine s_iadd dX12_kindOf_8 ?_
  refine s_iload_n (x := l2) dX12_kindOf_9 rfl ?_
  refine s_iadd dX12_kindOf_10 ?_
  refine s_iald (c := 102) (i := ((4 * l1) + 1) + l2) dX12_kindOf_11 e102 r1.1 r1.2 ?_
  exact s_ireturn dX12_kindOf_12 ⟨.int, rfl, rfl⟩ hq (fun z => by cases z)
theorem dX12_wordsOf_0 : decode mX12_wordsOf.cd 0 = .ok (.iconst 0, 1) := by decide +kernel
theorem dX12_wordsOf_1 : decode mX12_wordsOf.cd 1 = .ok (.istore_n 2, 1) := by decide +kernel
theorem dX12_wordsOf_2 : decode mX12_wordsOf.cd 2 = .ok (.iconst 0, 1) := by decide +kernel
theorem dX12_wordsOf_3 : decode mX12_wordsOf.cd 3 = .ok (.istore_n 3, 1) := by decide +kernel
theorem dX12_wordsOf_4 : decode mX12_wordsOf.cd 4 = .ok (.iload_n 3, 1) := by decide +kernel
theorem dX12_wordsOf_5 : decode mX12_wordsOf.cd 5 = .ok (.aload_n 0, 1) := by decide +kernel
theorem dX12_wordsOf_6 : decode mX12_wordsOf.cd 6 = .ok (.getfield 273, 3) := by decide +kernel
theorem dX12_wordsOf_9 : decode mX12_wordsOf.cd 9 = .ok (.if_icmp .ge 30, 3) := by decide +kernel
theorem dX12_wordsOf_12 : decode mX12_wordsOf.cd 12 = .ok (.iload_n 2, 1) := by decide +kernel
theorem dX12_wordsOf_13 : decode mX12_wordsOf.cd 13 = .ok (.aload_n 0, 1) := by decide +kernel
theorem dX12_wordsOf_14 : decode mX12_wordsOf.cd 14 = .ok (.getfield 20, 3) := by decide +kernel
theorem dX12_wordsOf_17 : decode mX12_wordsOf.cd 17 = .ok (.bipush 6, 2) := by decide +kernel
theorem dX12_wordsOf_19 : decode mX12_wordsOf.cd 19 = .ok (.iload_n 3, 1) := by decide +kernel
theorem dX12_wordsOf_20 : decode mX12_wordsOf.cd 20 = .ok (.imul, 1) := by decide +kernel
theorem dX12_wordsOf_21 : decode mX12_wordsOf.cd 21 = .ok (.iaload, 1) := by decide +kernel
theorem dX12_wordsOf_22 : decode mX12_wordsOf.cd 22 = .ok (.iload_n 1, 1) := by decide +kernel
theorem dX12_wordsOf_23 : decode mX12_wordsOf.cd 23 = .ok (.if_icmp .ne 7, 3) := by decide +kernel
theorem dX12_wordsOf_26 : decode mX12_wordsOf.cd 26 = .ok (.iconst 1, 1) := by decide +kernel
theorem dX12_wordsOf_27 : decode mX12_wordsOf.cd 27 = .ok (.goto 4, 3) := by decide +kernel
theorem dX12_wordsOf_30 : decode mX12_wordsOf.cd 30 = .ok (.iconst 0, 1) := by decide +kernel
theorem dX12_wordsOf_31 : decode mX12_wordsOf.cd 31 = .ok (.iadd, 1) := by decide +kernel
theorem dX12_wordsOf_32 : decode mX12_wordsOf.cd 32 = .ok (.istore_n 2, 1) := by decide +kernel
theorem dX12_wordsOf_33 : decode mX12_wordsOf.cd 33 = .ok (.iinc 3 1, 3) := by decide +kernel
theorem dX12_wordsOf_36 : decode mX12_wordsOf.cd 36 = .ok (.goto (-32), 3) := by decide +kernel
theorem dX12_wordsOf_39 : decode mX12_wordsOf.cd 39 = .ok (.iload_n 2, 1) := by decide +kernel
theorem dX12_wordsOf_40 : decode mX12_wordsOf.cd 40 = .ok (.ireturn, 1) := by decide +kernel
theorem bX12_wordsOf_0 {fr M1 M2 b1 b2 : Nat} {Q : RS → Nat → AH → Prop} {h : AH} {l1 : Int} {x2 x3 : AV}   (kk : Wp mX12_wordsOf (kR fr M1 M2) Q (b1, b2) 4 [zR 98, zI l1, zI 0, zI 0] [] 137 h) : Wp mX12_wordsOf (kR fr M1 M2) Q (b1, b2) 0 [zR 98, zI l1, x2, x3] [] 137 h := by
  refine s_fgt (fgt_c (fgt_c (fgt_n _ (fgt_n _ fgt_0)))) ?_
  refine s_iconst dX12_wordsOf_0 ?_
  refine s_istore_n dX12_wordsOf_1 rfl (by decide) ?_
  refine s_iconst dX12_wordsOf_2 ?_
  refine s_istore_n dX12_wordsOf_3 rfl (by decide) ?_
  exact kk
theorem bX12_wordsOf_4 {fr M1 M2 b1 b2 : Nat} {Q : RS → Nat → AH → Prop} {h : AH} {l1 l2 l3 : Int}  (r1 : -2147483648 ≤ l3 ∧ l3 < 2147483648 := by omega) (r2 : -2147483648 ≤ h 98 3 ∧ h 98 3 < 2147483648 := by omega) (kt : h 98 3 ≤ l3 → Wp mX12_wordsOf (kR fr M1 M2) Q (b1, b2) 39 [zR 98, zI l1, zI l2, zI l3] [] 137 h) (kf : l3 < h 98 3 → Wp mX12_wordsOf (kR fr M1 M2) Q (b1, b2) 12 [zR 98, zI l1, zI l2, zI l3] [] 137 h) : Wp mX12_wordsOf (kR fr M1 M2) Q (b1, b2) 4 [zR 98, zI l1, zI l2, zI l3] [] 137 h := by
  refine s_iload_n (x := l3) dX12_wordsOf_4 rfl ?_
  refine s_aload_n (x := 98) dX12_wordsOf_5 rfl ?_
  refine s_get (c := 98) dX12_wordsOf_6 lX12_273 e98 (by decide) ?_
  exact s_icmp_ge (tgt := 39) dX12_wordsOf_9 (by decide) r1 r2 kt kf
theorem bX12_wordsOf_12 {fr M1 M2 b1 b2 : Nat} {Q : RS → Nat → AH → Prop} {h : AH} {l1 l2 l3 : Int}  (r1 : 0 ≤ 6 * l3 ∧ 6 * l3 < 48 := by omega) (r2 : -2147483648 ≤ h 101 (6 * l3) ∧ h 101 (6 * l3) < 2147483648 := by omega) (r3 : -2147483648 ≤ l1 ∧ l1 < 2147483648 := by omega) (kt : ¬ h 101 (6 * l3) = l1 → Wp mX12_wordsOf (kR fr M1 M2) Q (b1, b2) 30 [zR 98, zI l1, zI l2, zI l3] [zI l2] 137 h) (kf : h 101 (6 * l3) = l1 → Wp mX12_wordsOf (kR fr M1 M2) Q (b1, b2) 26 [zR 98, zI l1, zI l2, zI l3] [zI l2] 137 h) : Wp mX12_wordsOf (kR fr M1 M2) Q (b1, b2) 12 [zR 98, zI l1, zI l2, zI l3] [] 137 h := by
  refine s_iload_n (x := l2) dX12_wordsOf_12 rfl ?_
  refine s_aload_n (x := 98) dX12_wordsOf_13 rfl ?_
  refine s_getFd (c := 98) (d := 101) dX12_wordsOf_14 lX12_20 e98 (Or.inl rfl) (by decide) (by decide) ?_
  refine s_bipush dX12_wordsOf_17 (by decide) ?_
  refine s_iload_n (x := l3) dX12_wordsOf_19 rfl ?_
  refine s_imul dX12_wordsOf_20 ?_
  refine s_iald (c := 101) (i := 6 * l3) dX12_wordsOf_21 e101 r1.1 r1.2 ?_
  refine s_iload_n (x := l1) dX12_wordsOf_22 rfl ?_
  exact s_icmp_ne (tgt := 30) dX12_wordsOf_23 (by decide) r2 r3 kt kf
theorem bX12_wordsOf_26 {fr M1 M2 b1 b2 : Nat} {Q : RS → Nat → AH → Prop} {h : AH} {l1 l3 s0 : Int} {x2 : AV}   (kk : Wp mX12_wordsOf (kR fr M1 M2) Q (b1, b2) 31 [zR 98, zI l1, none, zI l3] [zI 1, zI s0] 137 h) : Wp mX12_wordsOf (kR fr M1 M2) Q (b1, b2) 26 [zR 98, zI l1, x2, zI l3] [zI s0] 137 h := by
  refine s_fgt (fgt_c (fgt_c (fgt_n _ (fgt_c fgt_0)))) ?_
  refine s_iconst dX12_wordsOf_26 ?_
  exact s_goto (tgt := 31) dX12_wordsOf_27 (by decide) kk
theorem bX12_wordsOf_30 {fr M1 M2 b1 b2 : Nat} {Q : RS → Nat → AH → Prop} {h : AH} {l1 l3 s0 : Int} {x2 : AV}   (kk : Wp mX12_wordsOf (kR fr M1 M2) Q (b1, b2) 31 [zR 98, zI l1, none, zI l3] [zI 0, zI s0] 137 h) : Wp mX12_wordsOf (kR fr M1 M2) Q (b1, b2) 30 [zR 98, zI l1, x2, zI l3] [zI s0] 137 h := by
  refine s_fgt (fgt_c (fgt_c (fgt_n _ (fgt_c fgt_0)))) ?_
  refine s_iconst dX12_wordsOf_30 ?_
  exact kk
theorem bX12_wordsOf_31 {fr M1 M2 b1 b2 : Nat} {Q : RS → Nat → AH → Prop} {h : AH} {l1 l3 s1 s0 : Int} {x2 : AV}   (kk : Wp mX12_wordsOf (kR fr M1 M2) Q (b1, b2) 4 [zR 98, zI l1, zI (s1 + s0), zI (l3 + 1)] [] 137 h) : Wp mX12_wordsOf (kR fr M1 M2) Q (b1, b2) 31 [zR 98, zI l1, x2, zI l3] [zI s0, zI s1] 137 h := by
  refine s_fgt (fgt_c (fgt_c (fgt_n _ (fgt_c fgt_0)))) ?_
  refine s_iadd dX12_wordsOf_31 ?_
  refine s_istore_n dX12_wordsOf_32 rfl (by decide) ?_
  refine s_iinc (x := l3) dX12_wordsOf_33 rfl rfl (by decide) ?_
  exact s_goto (tgt := 4) dX12_wordsOf_36 (by decide) kk
theorem bX12_wordsOf_39 {fr M1 M2 b1 b2 : Nat} {Q : RS → Nat → AH → Prop} {h : AH} {l2 : Int} {x0 x1 x3 : AV}   (hq : Q (.inl (some (zI l2))) 137 h) : Wp mX12_wordsOf (kR fr M1 M2) Q (b1, b2) 39 [x0, x1, zI l2, x3] [] 137 h := by
  refine s_fgt (fgt_n _ (fgt_n _ (fgt_c (fgt_n _ fgt_0)))) ?_
  refine s_iload_n (x := l2) dX12_wordsOf_39 rfl ?_
  exact s_ireturn dX12_wordsOf_40 ⟨.int, rfl, rfl⟩ hq (fun z => by cases z)
theorem dX12_linesOf_0 : decode mX12_linesOf.cd 0 = .ok (.iconst 1, 1) := by decide +kernel
theorem dX12_linesOf_1 : decode mX12_linesOf.cd 1 = .ok (.istore_n 2, 1) := by decide +kernel
theorem dX12_linesOf_2 : decode mX12_linesOf.cd 2 = .ok (.iconst 0, 1) := by decide +kernel
theorem dX12_linesOf_3 : decode mX12_linesOf.cd 3 = .ok (.istore_n 3, 1) := by decide +kernel
theorem dX12_linesOf_4 : decode mX12_linesOf.cd 4 = .ok (.iload_n 3, 1) := by decide +kernel
theorem dX12_linesOf_5 : decode mX12_linesOf.cd 5 = .ok (.aload_n 0, 1) := by decide +kernel
theorem dX12_linesOf_6 : decode mX12_linesOf.cd 6 = .ok (.getfield 23, 3) := by decide +kernel
theorem dX12_linesOf_9 : decode mX12_linesOf.cd 9 = .ok (.iconst 4, 1) := by decide +kernel
theorem dX12_linesOf_10 : decode mX12_linesOf.cd 10 = .ok (.iload_n 1, 1) := by decide +kernel
theorem dX12_linesOf_11 : decode mX12_linesOf.cd 11 = .ok (.imul, 1) := by decide +kernel
theorem dX12_linesOf_12 : decode mX12_linesOf.cd 12 = .ok (.iaload, 1) := by decide +kernel
theorem dX12_linesOf_13 : decode mX12_linesOf.cd 13 = .ok (.if_icmp .ge 22, 3) := by decide +kernel
theorem dX12_linesOf_16 : decode mX12_linesOf.cd 16 = .ok (.iload_n 2, 1) := by decide +kernel
theorem dX12_linesOf_17 : decode mX12_linesOf.cd 17 = .ok (.aload_n 0, 1) := by decide +kernel
theorem dX12_linesOf_18 : decode mX12_linesOf.cd 18 = .ok (.aload_n 0, 1) := by decide +kernel
theorem dX12_linesOf_19 : decode mX12_linesOf.cd 19 = .ok (.iload_n 1, 1) := by decide +kernel
theorem dX12_linesOf_20 : decode mX12_linesOf.cd 20 = .ok (.iload_n 3, 1) := by decide +kernel
theorem dX12_linesOf_21 : decode mX12_linesOf.cd 21 = .ok (.invokevirtual 344, 3) := by decide +kernel
theorem dX12_linesOf_24 : decode mX12_linesOf.cd 24 = .ok (.invokevirtual 347, 3) := by decide +kernel
theorem dX12_linesOf_27 : decode mX12_linesOf.cd 27 = .ok (.imul, 1) := by decide +kernel
theorem dX12_linesOf_28 : decode mX12_linesOf.cd 28 = .ok (.istore_n 2, 1) := by decide +kernel
theorem dX12_linesOf_29 : decode mX12_linesOf.cd 29 = .ok (.iinc 3 1, 3) := by decide +kernel
theorem dX12_linesOf_32 : decode mX12_linesOf.cd 32 = .ok (.goto (-28), 3) := by decide +kernel
theorem dX12_linesOf_35 : decode mX12_linesOf.cd 35 = .ok (.iload_n 2, 1) := by decide +kernel
theorem dX12_linesOf_36 : decode mX12_linesOf.cd 36 = .ok (.ireturn, 1) := by decide +kernel
theorem bX12_linesOf_0 {fr M1 M2 b1 b2 : Nat} {Q : RS → Nat → AH → Prop} {h : AH} {l1 : Int} {x2 x3 : AV}   (kk : Wp mX12_linesOf (kR fr M1 M2) Q (b1, b2) 4 [zR 98, zI l1, zI 1, zI 0] [] 137 h) : Wp mX12_linesOf (kR fr M1 M2) Q (b1, b2) 0 [zR 98, zI l1, x2, x3] [] 137 h := by
  refine s_fgt (fgt_c (fgt_c (fgt_n _ (fgt_n _ fgt_0)))) ?_
  refine s_iconst dX12_linesOf_0 ?_
  refine s_istore_n dX12_linesOf_1 rfl (by decide) ?_
  refine s_iconst dX12_linesOf_2 ?_
  refine s_istore_n dX12_linesOf_3 rfl (by decide) ?_
  exact kk
theorem bX12_linesOf_4 {fr M1 M2 b1 b2 : Nat} {Q : RS → Nat → AH → Prop} {h : AH} {l1 l2 l3 : Int}  (r1 : 0 ≤ 4 * l1 ∧ 4 * l1 < 24 := by omega) (r2 : -2147483648 ≤ l3 ∧ l3 < 2147483648 := by omega) (r3 : -2147483648 ≤ h 102 (4 * l1) ∧ h 102 (4 * l1) < 2147483648 := by omega) (kt : h 102 (4 * l1) ≤ l3 → Wp mX12_linesOf (kR fr M1 M2) Q (b1, b2) 35 [zR 98, zI l1, zI l2, zI l3] [] 137 h) (kf : l3 < h 102 (4 * l1) → Wp mX12_linesOf (kR fr M1 M2) Q (b1, b2) 16 [zR 98, zI l1, zI l2, zI l3] [] 137 h) : Wp mX12_linesOf (kR fr M1 M2) Q (b1, b2) 4 [zR 98, zI l1, zI l2, zI l3] [] 137 h := by
  refine s_iload_n (x := l3) dX12_linesOf_4 rfl ?_
  refine s_aload_n (x := 98) dX12_linesOf_5 rfl ?_
  refine s_getFd (c := 98) (d := 102) dX12_linesOf_6 lX12_23 e98 (Or.inl rfl) (by decide) (by decide) ?_
  refine s_iconst dX12_linesOf_9 ?_
  refine s_iload_n (x := l1) dX12_linesOf_10 rfl ?_
  refine s_imul dX12_linesOf_11 ?_
  refine s_iald (c := 102) (i := 4 * l1) dX12_linesOf_12 e102 r1.1 r1.2 ?_
  exact s_icmp_ge (tgt := 35) dX12_linesOf_13 (by decide) r2 r3 kt kf
theorem bX12_linesOf_16 {fr M1 M2 b1 b2 : Nat} {Q : RS → Nat → AH → Prop} {h : AH} {l1 l2 l3 : Int} {R : Int → AH → Prop}   (hS : Sp mX12_kindOf true (fr - 1) 0 0 [zR 98, zI l1, zI l3] 137 h (rI R)) (hf : 1 ≤ fr := by omega) (kk : ∀ (x : Int) (h' : AH), R x h' → Wp mX12_linesOf (kR fr M1 M2) Q (b1, b2) 24 [zR 98, zI l1, zI l2, zI l3] [zI x, zR 98, zI l2] 137 h') : Wp mX12_linesOf (kR fr M1 M2) Q (b1, b2) 16 [zR 98, zI l1, zI l2, zI l3] [] 137 h := by
  refine s_iload_n (x := l2) dX12_linesOf_16 rfl ?_
  refine s_aload_n (x := 98) dX12_linesOf_17 rfl ?_
  refine s_aload_n (x := 98) dX12_linesOf_18 rfl ?_
  refine s_iload_n (x := l1) dX12_linesOf_19 rfl ?_
  refine s_iload_n (x := l3) dX12_linesOf_20 rfl ?_
  exact s_callV (as := [zI l1, zI l3]) (st := [zR 98, zI l2]) (o := 98) dX12_linesOf_21 kX12_344 rfl ⟨12, 87, TX12, e98, rfl, by decide⟩ rfl rfl (Nat.le_of_ble_eq_true rfl) hS (show fr - 1 + 1 ≤ fr by omega) (Nat.zero_le _) (Nat.zero_le _) (fun v n' h' hP _ => by obtain ⟨x, e, rfl, hR⟩ := hP; cases e; exact kk x h' hR) (fun E n' h' _ z => (rI_nt _ _ _ z).elim)
theorem bX12_linesOf_24 {fr M1 M2 b1 b2 : Nat} {Q : RS → Nat → AH → Prop} {h : AH} {l1 l3 s2 s0 : Int} {x2 : AV} {R : Int → AH → Prop}   (hS : Sp mX12_wordsOf true (fr - 1) 0 0 [zR 98, zI s0] 137 h (rI R)) (hf : 1 ≤ fr := by omega) (kk : ∀ (x : Int) (h' : AH), R x h' → Wp mX12_linesOf (kR fr M1 M2) Q (b1, b2) 27 [zR 98, zI l1, none, zI l3] [zI x, zI s2] 137 h') : Wp mX12_linesOf (kR fr M1 M2) Q (b1, b2) 24 [zR 98, zI l1, x2, zI l3] [zI s0, zR 98, zI s2] 137 h := by
  refine s_fgt (fgt_c (fgt_c (fgt_n _ (fgt_c fgt_0)))) ?_
  exact s_callV (as := [zI s0]) (st := [zI s2]) (o := 98) dX12_linesOf_24 kX12_347 rfl ⟨12, 87, TX12, e98, rfl, by decide⟩ rfl rfl (Nat.le_of_ble_eq_true rfl) hS (show fr - 1 + 1 ≤ fr by omega) (Nat.zero_le _) (Nat.zero_le _) (fun v n' h' hP _ => by obtain ⟨x, e, rfl, hR⟩ := hP; cases e; exact kk x h' hR) (fun E n' h' _ z => (rI_nt _ _ _ z).elim)
theorem bX12_linesOf_27 {fr M1 M2 b1 b2 : Nat} {Q : RS → Nat → AH → Prop} {h : AH} {l1 l3 s1 s0 : Int} {x2 : AV}   (kk : Wp mX12_linesOf (kR fr M1 M2) Q (b1, b2) 4 [zR 98, zI l1, zI (s1 * s0), zI (l3 + 1)] [] 137 h) : Wp mX12_linesOf (kR fr M1 M2) Q (b1, b2) 27 [zR 98, zI l1, x2, zI l3] [zI s0, zI s1] 137 h := by
  refine s_fgt (fgt_c (fgt_c (fgt_n _ (fgt_c fgt_0)))) ?_
  refine s_imul dX12_linesOf_27 ?_
  refine s_istore_n dX12_linesOf_28 rfl (by decide) ?_
  refine s_iinc (x := l3) dX12_linesOf_29 rfl rfl (by decide) ?_
  exact s_goto (tgt := 4) dX12_linesOf_32 (by decide) kk
theorem bX12_linesOf_35 {fr M1 M2 b1 b2 : Nat} {Q : RS → Nat → AH → Prop} {h : AH} {l2 : Int} {x0 x1 x3 : AV}   (hq : Q (.inl (some (zI l2))) 137 h) : Wp mX12_linesOf (kR fr M1 M2) Q (b1, b2) 35 [x0, x1, zI l2, x3] [] 137 h := by
  refine s_fgt (fgt_n _ (fgt_n _ (fgt_c (fgt_n _ fgt_0)))) ?_
  refine s_iload_n (x := l2) dX12_linesOf_35 rfl ?_
  exact s_ireturn dX12_linesOf_36 ⟨.int, rfl, rfl⟩ hq (fun z => by cases z)
theorem dX12_allLines_0 : decode mX12_allLines.cd 0 = .ok (.iconst 0, 1) := by decide +kernel
theorem dX12_allLines_1 : decode mX12_allLines.cd 1 = .ok (.istore_n 1, 1) := by decide +kernel
theorem dX12_allLines_2 : decode mX12_allLines.cd 2 = .ok (.iconst 0, 1) := by decide +kernel
theorem dX12_allLines_3 : decode mX12_allLines.cd 3 = .ok (.istore_n 2, 1) := by decide +kernel
theorem dX12_allLines_4 : decode mX12_allLines.cd 4 = .ok (.iload_n 2, 1) := by decide +kernel
theorem dX12_allLines_5 : decode mX12_allLines.cd 5 = .ok (.aload_n 0, 1) := by decide +kernel
theorem dX12_allLines_6 : decode mX12_allLines.cd 6 = .ok (.getfield 276, 3) := by decide +kernel
theorem dX12_allLines_9 : decode mX12_allLines.cd 9 = .ok (.if_icmp .ge 17, 3) := by decide +kernel
theorem dX12_allLines_12 : decode mX12_allLines.cd 12 = .ok (.iload_n 1, 1) := by decide +kernel
theorem dX12_allLines_13 : decode mX12_allLines.cd 13 = .ok (.aload_n 0, 1) := by decide +kernel
theorem dX12_allLines_14 : decode mX12_allLines.cd 14 = .ok (.iload_n 2, 1) := by decide +kernel
theorem dX12_allLines_15 : decode mX12_allLines.cd 15 = .ok (.invokevirtual 350, 3) := by decide +kernel
theorem dX12_allLines_18 : decode mX12_allLines.cd 18 = .ok (.iadd, 1) := by decide +kernel
theorem dX12_allLines_19 : decode mX12_allLines.cd 19 = .ok (.istore_n 1, 1) := by decide +kernel
theorem dX12_allLines_20 : decode mX12_allLines.cd 20 = .ok (.iinc 2 1, 3) := by decide +kernel
theorem dX12_allLines_23 : decode mX12_allLines.cd 23 = .ok (.goto (-19), 3) := by decide +kernel
theorem dX12_allLines_26 : decode mX12_allLines.cd 26 = .ok (.iload_n 1, 1) := by decide +kernel
theorem dX12_allLines_27 : decode mX12_allLines.cd 27 = .ok (.ireturn, 1) := by decide +kernel
theorem bX12_allLines_0 {fr M1 M2 b1 b2 : Nat} {Q : RS → Nat → AH → Prop} {h : AH} {x1 x2 : AV}   (kk : Wp mX12_allLines (kR fr M1 M2) Q (b1, b2) 4 [zR 98, zI 0, zI 0] [] 137 h) : Wp mX12_allLines (kR fr M1 M2) Q (b1, b2) 0 [zR 98, x1, x2] [] 137 h := by
  refine s_fgt (fgt_c (fgt_n _ (fgt_n _ fgt_0))) ?_
  refine s_iconst dX12_allLines_0 ?_
  refine s_istore_n dX12_allLines_1 rfl (by decide) ?_
  refine s_iconst dX12_allLines_2 ?_
  refine s_istore_n dX12_allLines_3 rfl (by decide) ?_
  exact kk
theorem bX12_allLines_4 {fr M1 M2 b1 b2 : Nat} {Q : RS → Nat → AH → Prop} {h : AH} {l1 l2 : Int}  (r1 : -2147483648 ≤ l2 ∧ l2 < 2147483648 := by omega) (r2 : -2147483648 ≤ h 98 4 ∧ h 98 4 < 2147483648 := by omega) (kt : h 98 4 ≤ l2 → Wp mX12_allLines (kR fr M1 M2) Q (b1, b2) 26 [zR 98, zI l1, zI l2] [] 137 h) (kf : l2 < h 98 4 → Wp mX12_allLines (kR fr M1 M2) Q (b1, b2) 12 [zR 98, zI l1, zI l2] [] 137 h) : Wp mX12_allLines (kR fr M1 M2) Q (b1, b2) 4 [zR 98, zI l1, zI l2] [] 137 h := by
  refine s_iload_n (x := l2) dX12_allLines_4 rfl ?_
  refine s_aload_n (x := 98) dX12_allLines_5 rfl ?_
  refine s_get (c := 98) dX12_allLines_6 lX12_276 e98 (by decide) ?_
  exact s_icmp_ge (tgt := 26) dX12_allLines_9 (by decide) r1 r2 kt kf
theorem bX12_allLines_12 {fr M1 M2 b1 b2 : Nat} {Q : RS → Nat → AH → Prop} {h : AH} {l1 l2 : Int} {R : Int → AH → Prop}   (hS : Sp mX12_linesOf true (fr - 1) 0 0 [zR 98, zI l2] 137 h (rI R)) (hf : 1 ≤ fr := by omega) (kk : ∀ (x : Int) (h' : AH), R x h' → Wp mX12_allLines (kR fr M1 M2) Q (b1, b2) 18 [zR 98, zI l1, zI l2] [zI x, zI l1] 137 h') : Wp mX12_allLines (kR fr M1 M2) Q (b1, b2) 12 [zR 98, zI l1, zI l2] [] 137 h := by
  refine s_iload_n (x := l1) dX12_allLines_12 rfl ?_
  refine s_aload_n (x := 98) dX12_allLines_13 rfl ?_
  refine s_iload_n (x := l2) dX12_allLines_14 rfl ?_
  exact s_callV (as := [zI l2]) (st := [zI l1]) (o := 98) dX12_allLines_15 kX12_350 rfl ⟨12, 87, TX12, e98, rfl, by decide⟩ rfl rfl (Nat.le_of_ble_eq_true rfl) hS (show fr - 1 + 1 ≤ fr by omega) (Nat.zero_le _) (Nat.zero_le _) (fun v n' h' hP _ => by obtain ⟨x, e, rfl, hR⟩ := hP; cases e; exact kk x h' hR) (fun E n' h' _ z => (rI_nt _ _ _ z).elim)
theorem bX12_allLines_18 {fr M1 M2 b1 b2 : Nat} {Q : RS → Nat → AH → Prop} {h : AH} {l2 s1 s0 : Int} {x1 : AV}   (kk : Wp mX12_allLines (kR fr M1 M2) Q (b1, b2) 4 [zR 98, zI (s1 + s0), zI (l2 + 1)] [] 137 h) : Wp mX12_allLines (kR fr M1 M2) Q (b1, b2) 18 [zR 98, x1, zI l2] [zI s0, zI s1] 137 h := by
  refine s_fgt (fgt_c (fgt_n _ (fgt_c fgt_0))) ?_
  refine s_iadd dX12_allLines_18 ?_
  refine s_istore_n dX12_allLines_19 rfl (by decide) ?_
  refine s_iinc (x := l2) dX12_allLines_20 rfl rfl (by decide) ?_
  exact s_goto (tgt := 4) dX12_allLines_23 (by decide) kk
theorem bX12_allLines_26 {fr M1 M2 b1 b2 : Nat} {Q : RS → Nat → AH → Prop} {h : AH} {l1 : Int} {x0 x2 : AV}   (hq : Q (.inl (some (zI l1))) 137 h) : Wp mX12_allLines (kR fr M1 M2) Q (b1, b2) 26 [x0, zI l1, x2] [] 137 h := by
  refine s_fgt (fgt_n _ (fgt_c (fgt_n _ fgt_0))) ?_
  refine s_iload_n (x := l1) dX12_allLines_26 rfl ?_
  exact s_ireturn dX12_allLines_27 ⟨.int, rfl, rfl⟩ hq (fun z => by cases z)
theorem dX12_wordBehind_0 : decode mX12_wordBehind.cd 0 = .ok (.iload_n 2, 1) := by decide +kernel
theorem dX12_wordBehind_1 : decode mX12_wordBehind.cd 1 = .ok (.iconst 1, 1) := by decide +kernel
theorem dX12_wordBehind_2 : decode mX12_wordBehind.cd 2 = .ok (.iadd, 1) := by decide +kernel
theorem dX12_wordBehind_3 : decode mX12_wordBehind.cd 3 = .ok (.istore_n 3, 1) := by decide +kernel
theorem dX12_wordBehind_4 : decode mX12_wordBehind.cd 4 = .ok (.iload_n 3, 1) := by decide +kernel
theorem dX12_wordBehind_5 : decode mX12_wordBehind.cd 5 = .ok (.aload_n 0, 1) := by decide +kernel
theorem dX12_wordBehind_6 : decode mX12_wordBehind.cd 6 = .ok (.getfield 273, 3) := by decide +kernel
theorem dX12_wordBehind_9 : decode mX12_wordBehind.cd 9 = .ok (.if_icmp .ge 24, 3) := by decide +kernel
theorem dX12_wordBehind_12 : decode mX12_wordBehind.cd 12 = .ok (.aload_n 0, 1) := by decide +kernel
theorem dX12_wordBehind_13 : decode mX12_wordBehind.cd 13 = .ok (.getfield 20, 3) := by decide +kernel
theorem dX12_wordBehind_16 : decode mX12_wordBehind.cd 16 = .ok (.bipush 6, 2) := by decide +kernel
theorem dX12_wordBehind_18 : decode mX12_wordBehind.cd 18 = .ok (.iload_n 3, 1) := by decide +kernel
theorem dX12_wordBehind_19 : decode mX12_wordBehind.cd 19 = .ok (.imul, 1) := by decide +kernel
theorem dX12_wordBehind_20 : decode mX12_wordBehind.cd 20 = .ok (.iaload, 1) := by decide +kernel
theorem dX12_wordBehind_21 : decode mX12_wordBehind.cd 21 = .ok (.iload_n 1, 1) := by decide +kernel
theorem dX12_wordBehind_22 : decode mX12_wordBehind.cd 22 = .ok (.if_icmp .ne 5, 3) := by decide +kernel
theorem dX12_wordBehind_25 : decode mX12_wordBehind.cd 25 = .ok (.iload_n 3, 1) := by decide +kernel
theorem dX12_wordBehind_26 : decode mX12_wordBehind.cd 26 = .ok (.ireturn, 1) := by decide +kernel
theorem dX12_wordBehind_27 : decode mX12_wordBehind.cd 27 = .ok (.iinc 3 1, 3) := by decide +kernel
theorem dX12_wordBehind_30 : decode mX12_wordBehind.cd 30 = .ok (.goto (-26), 3) := by decide +kernel
theorem dX12_wordBehind_33 : decode mX12_wordBehind.cd 33 = .ok (.iconst (-1), 1) := by decide +kernel
theorem dX12_wordBehind_34 : decode mX12_wordBehind.cd 34 = .ok (.ireturn, 1) := by decide +kernel
theorem bX12_wordBehind_0 {fr M1 M2 b1 b2 : Nat} {Q : RS → Nat → AH → Prop} {h : AH} {l1 l2 : Int} {x3 : AV}   (kk : Wp mX12_wordBehind (kR fr M1 M2) Q (b1, b2) 4 [zR 98, zI l1, zI l2, zI (l2 + 1)] [] 137 h) : Wp mX12_wordBehind (kR fr M1 M2) Q (b1, b2) 0 [zR 98, zI l1, zI l2, x3] [] 137 h := by
  refine s_fgt (fgt_c (fgt_c (fgt_c (fgt_n _ fgt_0)))) ?_
  refine s_iload_n (x := l2) dX12_wordBehind_0 rfl ?_
  refine s_iconst dX12_wordBehind_1 ?_
  refine s_iadd dX12_wordBehind_2 ?_
  refine s_istore_n dX12_wordBehind_3 rfl (by decide) ?_
  exact kk
theorem bX12_wordBehind_4 {fr M1 M2 b1 b2 : Nat} {Q : RS → Nat → AH → Prop} {h : AH} {l1 l3 : Int} {x2 : AV}  (r1 : -2147483648 ≤ l3 ∧ l3 < 2147483648 := by omega) (r2 : -2147483648 ≤ h 98 3 ∧ h 98 3 < 2147483648 := by omega) (kt : h 98 3 ≤ l3 → Wp mX12_wordBehind (kR fr M1 M2) Q (b1, b2) 33 [zR 98, zI l1, none, zI l3] [] 137 h) (kf : l3 < h 98 3 → Wp mX12_wordBehind (kR fr M1 M2) Q (b1, b2) 12 [zR 98, zI l1, none, zI l3] [] 137 h) : Wp mX12_wordBehind (kR fr M1 M2) Q (b1, b2) 4 [zR 98, zI l1, x2, zI l3] [] 137 h := by
  refine s_fgt (fgt_c (fgt_c (fgt_n _ (fgt_c fgt_0)))) ?_
  refine s_iload_n (x := l3) dX12_wordBehind_4 rfl ?_
  refine s_aload_n (x := 98) dX12_wordBehind_5 rfl ?_
  refine s_get (c := 98) dX12_wordBehind_6 lX12_273 e98 (by decide) ?_
  exact s_icmp_ge (tgt := 33) dX12_wordBehind_9 (by decide) r1 r2 kt kf
theorem bX12_wordBehind_12 {fr M1 M2 b1 b2 : Nat} {Q : RS → Nat → AH → Prop} {h : AH} {l1 l3 : Int} {x2 : AV}  (r1 : 0 ≤ 6 * l3 ∧ 6 * l3 < 48 := by omega) (r2 : -2147483648 ≤ h 101 (6 * l3) ∧ h 101 (6 * l3) < 2147483648 := by omega) (r3 : -2147483648 ≤ l1 ∧ l1 < 2147483648 := by omega) (kt : ¬ h 101 (6 * l3) = l1 → Wp mX12_wordBehind (kR fr M1 M2) Q (b1, b2) 27 [zR 98, zI l1, none, zI l3] [] 137 h) (kf : h 101 (6 * l3) = l1 → Wp mX12_wordBehind (kR fr M1 M2) Q (b1, b2) 25 [zR 98, zI l1, none, zI l3] [] 137 h) : Wp mX12_wordBehind (kR fr M1 M2) Q (b1, b2) 12 [zR 98, zI l1, x2, zI l3] [] 137 h := by
  refine s_fgt (fgt_c (fgt_c (fgt_n _ (fgt_c fgt_0)))) ?_
  refine s_aload_n (x := 98) dX12_wordBehind_12 rfl ?_
  refine s_getFd (c := 98) (d := 101) dX12_wordBehind_13 lX12_20 e98 (Or.inl rfl) (by decide) (by decide) ?_
  refine s_bipush dX12_wordBehind_16 (by decide) ?_
  refine s_iload_n (x := l3) dX12_wordBehind_18 rfl ?_
  refine s_imul dX12_wordBehind_19 ?_
  refine s_iald (c := 101) (i := 6 * l3) dX12_wordBehind_20 e101 r1.1 r1.2 ?_
  refine s_iload_n (x := l1) dX12_wordBehind_21 rfl ?_
  exact s_icmp_ne (tgt := 27) dX12_wordBehind_22 (by decide) r2 r3 kt kf
theorem bX12_wordBehind_25 {fr M1 M2 b1 b2 : Nat} {Q : RS → Nat → AH → Prop} {h : AH} {l3 : Int} {x0 x1 x2 : AV}   (hq : Q (.inl (some (zI l3))) 137 h) : Wp mX12_wordBehind (kR fr M1 M2) Q (b1, b2) 25 [x0, x1, x2, zI l3] [] 137 h := by
  refine s_fgt (fgt_n _ (fgt_n _ (fgt_n _ (fgt_c fgt_0)))) ?_
  refine s_iload_n (x := l3) dX12_wordBehind_25 rfl ?_
  exact s_ireturn dX12_wordBehind_26 ⟨.int, rfl, rfl⟩ hq (fun z => by cases z)
theorem bX12_wordBehind_27 {fr M1 M2 b1 b2 : Nat} {Q : RS → Nat → AH → Prop} {h : AH} {l1 l3 : Int} {x2 : AV}   (kk : Wp mX12_wordBehind (kR fr M1 M2) Q (b1, b2) 4 [zR 98, zI l1, none, zI (l3 + 1)] [] 137 h) : Wp mX12_wordBehind (kR fr M1 M2) Q (b1, b2) 27 [zR 98, zI l1, x2, zI l3] [] 137 h := by
  refine s_fgt (fgt_c (fgt_c (fgt_n _ (fgt_c fgt_0)))) ?_
  refine s_iinc (x := l3) dX12_wordBehind_27 rfl rfl (by decide) ?_
  exact s_goto (tgt := 4) dX12_wordBehind_30 (by decide) kk
theorem bX12_wordBehind_33 {fr M1 M2 b1 b2 : Nat} {Q : RS → Nat → AH → Prop} {h : AH} {x0 x1 x2 x3 : AV}   (hq : Q (.inl (some (zI (-1)))) 137 h) : Wp mX12_wordBehind (kR fr M1 M2) Q (b1, b2) 33 [x0, x1, x2, x3] [] 137 h := by
  refine s_fgt (fgt_n _ (fgt_n _ (fgt_n _ (fgt_n _ fgt_0)))) ?_
  refine s_iconst dX12_wordBehind_33 ?_
  exact s_ireturn dX12_wordBehind_34 ⟨.int, rfl, rfl⟩ hq (fun z => by cases z)
theorem dX12_firstLine_0 : decode mX12_firstLine.cd 0 = .ok (.aload_n 0, 1) := by decide +kernel
theorem dX12_firstLine_1 : decode mX12_firstLine.cd 1 = .ok (.iconst (-1), 1) := by decide +kernel
theorem dX12_firstLine_2 : decode mX12_firstLine.cd 2 = .ok (.putfield 353, 3) := by decide +kernel
theorem dX12_firstLine_5 : decode mX12_firstLine.cd 5 = .ok (.aload_n 0, 1) := by decide +kernel
theorem dX12_firstLine_6 : decode mX12_firstLine.cd 6 = .ok (.invokevirtual 356, 3) := by decide +kernel
theorem dX12_firstLine_9 : decode mX12_firstLine.cd 9 = .ok (.ireturn, 1) := by decide +kernel
theorem bX12_firstLine_0 {fr M1 M2 b1 b2 : Nat} {Q : RS → Nat → AH → Prop} {h : AH} {R : Int → AH → Prop}   (hS : Sp mX12_nextForm true (fr - 1) 0 0 [zR 98] 137 (up h 98 53 (-1)) (rI R)) (hf : 1 ≤ fr := by omega) (kk : ∀ (x : Int) (h' : AH), R x h' → Wp mX12_firstLine (kR fr M1 M2) Q (b1, b2) 9 [zR 98] [zI x] 137 h') : Wp mX12_firstLine (kR fr M1 M2) Q (b1, b2) 0 [zR 98] [] 137 h := by
  refine s_aload_n (x := 98) dX12_firstLine_0 rfl ?_
  refine s_iconst dX12_firstLine_1 ?_
  refine s_put (c := 98) dX12_firstLine_2 lX12_353 e98 ?_
  refine s_aload_n (x := 98) dX12_firstLine_5 rfl ?_
  exact s_callV (as := []) (st := []) (o := 98) dX12_firstLine_6 kX12_356 rfl ⟨12, 87, TX12, e98, rfl, by decide⟩ rfl rfl (Nat.le_of_ble_eq_true rfl) hS (show fr - 1 + 1 ≤ fr by omega) (Nat.zero_le _) (Nat.zero_le _) (fun v n' h' hP _ => by obtain ⟨x, e, rfl, hR⟩ := hP; cases e; exact kk x h' hR) (fun E n' h' _ z => (rI_nt _ _ _ z).elim)
theorem bX12_firstLine_9 {fr M1 M2 b1 b2 : Nat} {Q : RS → Nat → AH → Prop} {h : AH} {s0 : Int} {x0 : AV}  (r1 : s0 = 0 ∨ s0 = 1 := by omega) (hq : Q (.inl (some (zI s0))) 137 h) : Wp mX12_firstLine (kR fr M1 M2) Q (b1, b2) 9 [x0] [zI s0] 137 h := by
  refine s_fgt (fgt_n _ fgt_0) ?_
  exact s_ireturn dX12_firstLine_9 ⟨.boolean, rfl, bool_nar r1⟩ hq (fun z => by cases z)
theorem dX12_nextForm_0 : decode mX12_nextForm.cd 0 = .ok (.aload_n 0, 1) := by decide +kernel
theorem dX12_nextForm_1 : decode mX12_nextForm.cd 1 = .ok (.dup, 1) := by decide +kernel
theorem dX12_nextForm_2 : decode mX12_nextForm.cd 2 = .ok (.getfield 353, 3) := by decide +kernel
theorem dX12_nextForm_5 : decode mX12_nextForm.cd 5 = .ok (.iconst 1, 1) := by decide +kernel
theorem dX12_nextForm_6 : decode mX12_nextForm.cd 6 = .ok (.iadd, 1) := by decide +kernel
theorem dX12_nextForm_7 : decode mX12_nextForm.cd 7 = .ok (.putfield 353, 3) := by decide +kernel
theorem dX12_nextForm_10 : decode mX12_nextForm.cd 10 = .ok (.aload_n 0, 1) := by decide +kernel
theorem dX12_nextForm_11 : decode mX12_nextForm.cd 11 = .ok (.getfield 353, 3) := by decide +kernel
theorem dX12_nextForm_14 : decode mX12_nextForm.cd 14 = .ok (.aload_n 0, 1) := by decide +kernel
theorem dX12_nextForm_15 : decode mX12_nextForm.cd 15 = .ok (.getfield 276, 3) := by decide +kernel
theorem dX12_nextForm_18 : decode mX12_nextForm.cd 18 = .ok (.if_icmp .ge 27, 3) := by decide +kernel
theorem dX12_nextForm_21 : decode mX12_nextForm.cd 21 = .ok (.aload_n 0, 1) := by decide +kernel
theorem dX12_nextForm_22 : decode mX12_nextForm.cd 22 = .ok (.aload_n 0, 1) := by decide +kernel
theorem dX12_nextForm_23 : decode mX12_nextForm.cd 23 = .ok (.getfield 353, 3) := by decide +kernel
theorem dX12_nextForm_26 : decode mX12_nextForm.cd 26 = .ok (.invokevirtual 350, 3) := by decide +kernel
theorem dX12_nextForm_29 : decode mX12_nextForm.cd 29 = .ok (.ifCond .ne 16, 3) := by decide +kernel
theorem dX12_nextForm_32 : decode mX12_nextForm.cd 32 = .ok (.aload_n 0, 1) := by decide +kernel
theorem dX12_nextForm_33 : decode mX12_nextForm.cd 33 = .ok (.dup, 1) := by decide +kernel
theorem dX12_nextForm_34 : decode mX12_nextForm.cd 34 = .ok (.getfield 353, 3) := by decide +kernel
theorem dX12_nextForm_37 : decode mX12_nextForm.cd 37 = .ok (.iconst 1, 1) := by decide +kernel
theorem dX12_nextForm_38 : decode mX12_nextForm.cd 38 = .ok (.iadd, 1) := by decide +kernel
theorem dX12_nextForm_39 : decode mX12_nextForm.cd 39 = .ok (.putfield 353, 3) := by decide +kernel
theorem dX12_nextForm_42 : decode mX12_nextForm.cd 42 = .ok (.goto (-32), 3) := by decide +kernel
theorem dX12_nextForm_45 : decode mX12_nextForm.cd 45 = .ok (.iconst 0, 1) := by decide +kernel
theorem dX12_nextForm_46 : decode mX12_nextForm.cd 46 = .ok (.istore_n 1, 1) := by decide +kernel
theorem dX12_nextForm_47 : decode mX12_nextForm.cd 47 = .ok (.iload_n 1, 1) := by decide +kernel
theorem dX12_nextForm_48 : decode mX12_nextForm.cd 48 = .ok (.iconst 3, 1) := by decide +kernel
theorem dX12_nextForm_49 : decode mX12_nextForm.cd 49 = .ok (.if_icmp .ge 59, 3) := by decide +kernel
theorem dX12_nextForm_52 : decode mX12_nextForm.cd 52 = .ok (.aload_n 0, 1) := by decide +kernel
theorem dX12_nextForm_53 : decode mX12_nextForm.cd 53 = .ok (.getfield 353, 3) := by decide +kernel
theorem dX12_nextForm_56 : decode mX12_nextForm.cd 56 = .ok (.aload_n 0, 1) := by decide +kernel
theorem dX12_nextForm_57 : decode mX12_nextForm.cd 57 = .ok (.getfield 276, 3) := by decide +kernel
theorem dX12_nextForm_60 : decode mX12_nextForm.cd 60 = .ok (.if_icmp .ge 48, 3) := by decide +kernel
theorem dX12_nextForm_63 : decode mX12_nextForm.cd 63 = .ok (.aload_n 0, 1) := by decide +kernel
theorem dX12_nextForm_64 : decode mX12_nextForm.cd 64 = .ok (.getfield 77, 3) := by decide +kernel
theorem dX12_nextForm_67 : decode mX12_nextForm.cd 67 = .ok (.iload_n 1, 1) := by decide +kernel
theorem dX12_nextForm_68 : decode mX12_nextForm.cd 68 = .ok (.iload_n 1, 1) := by decide +kernel
theorem dX12_nextForm_69 : decode mX12_nextForm.cd 69 = .ok (.aload_n 0, 1) := by decide +kernel
theorem dX12_nextForm_70 : decode mX12_nextForm.cd 70 = .ok (.getfield 23, 3) := by decide +kernel
theorem dX12_nextForm_73 : decode mX12_nextForm.cd 73 = .ok (.iconst 4, 1) := by decide +kernel
theorem dX12_nextForm_74 : decode mX12_nextForm.cd 74 = .ok (.aload_n 0, 1) := by decide +kernel
theorem dX12_nextForm_75 : decode mX12_nextForm.cd 75 = .ok (.getfield 353, 3) := by decide +kernel
theorem dX12_nextForm_78 : decode mX12_nextForm.cd 78 = .ok (.imul, 1) := by decide +kernel
theorem dX12_nextForm_79 : decode mX12_nextForm.cd 79 = .ok (.iaload, 1) := by decide +kernel
theorem dX12_nextForm_80 : decode mX12_nextForm.cd 80 = .ok (.if_icmp .ge 20, 3) := by decide +kernel
theorem dX12_nextForm_83 : decode mX12_nextForm.cd 83 = .ok (.aload_n 0, 1) := by decide +kernel
theorem dX12_nextForm_84 : decode mX12_nextForm.cd 84 = .ok (.aload_n 0, 1) := by decide +kernel
theorem dX12_nextForm_85 : decode mX12_nextForm.cd 85 = .ok (.aload_n 0, 1) := by decide +kernel
theorem dX12_nextForm_86 : decode mX12_nextForm.cd 86 = .ok (.getfield 353, 3) := by decide +kernel
theorem dX12_nextForm_89 : decode mX12_nextForm.cd 89 = .ok (.iload_n 1, 1) := by decide +kernel
theorem dX12_nextForm_90 : decode mX12_nextForm.cd 90 = .ok (.invokevirtual 344, 3) := by decide +kernel
theorem dX12_nextForm_93 : decode mX12_nextForm.cd 93 = .ok (.iconst (-1), 1) := by decide +kernel
theorem dX12_nextForm_94 : decode mX12_nextForm.cd 94 = .ok (.invokevirtual 359, 3) := by decide +kernel
theorem dX12_nextForm_97 : decode mX12_nextForm.cd 97 = .ok (.goto 4, 3) := by decide +kernel
theorem dX12_nextForm_100 : decode mX12_nextForm.cd 100 = .ok (.iconst (-1), 1) := by decide +kernel
theorem dX12_nextForm_101 : decode mX12_nextForm.cd 101 = .ok (.iastore, 1) := by decide +kernel
theorem dX12_nextForm_102 : decode mX12_nextForm.cd 102 = .ok (.iinc 1 1, 3) := by decide +kernel
theorem dX12_nextForm_105 : decode mX12_nextForm.cd 105 = .ok (.goto (-58), 3) := by decide +kernel
theorem dX12_nextForm_108 : decode mX12_nextForm.cd 108 = .ok (.aload_n 0, 1) := by decide +kernel
theorem dX12_nextForm_109 : decode mX12_nextForm.cd 109 = .ok (.getfield 353, 3) := by decide +kernel
theorem dX12_nextForm_112 : decode mX12_nextForm.cd 112 = .ok (.aload_n 0, 1) := by decide +kernel
theorem dX12_nextForm_113 : decode mX12_nextForm.cd 113 = .ok (.getfield 276, 3) := by decide +kernel
theorem dX12_nextForm_116 : decode mX12_nextForm.cd 116 = .ok (.if_icmp .ge 7, 3) := by decide +kernel
theorem dX12_nextForm_119 : decode mX12_nextForm.cd 119 = .ok (.iconst 1, 1) := by decide +kernel
theorem dX12_nextForm_120 : decode mX12_nextForm.cd 120 = .ok (.goto 4, 3) := by decide +kernel
theorem dX12_nextForm_123 : decode mX12_nextForm.cd 123 = .ok (.iconst 0, 1) := by decide +kernel
theorem dX12_nextForm_124 : decode mX12_nextForm.cd 124 = .ok (.ireturn, 1) := by decide +kernel
theorem bX12_nextForm_0 {fr M1 M2 b1 b2 : Nat} {Q : RS → Nat → AH → Prop} {h : AH} {x1 : AV}   (kk : Wp mX12_nextForm (kR fr M1 M2) Q (b1, b2) 10 [zR 98, none] [] 137 (up h 98 53 ((h 98 53) + 1))) : Wp mX12_nextForm (kR fr M1 M2) Q (b1, b2) 0 [zR 98, x1] [] 137 h := by
  refine s_fgt (fgt_c (fgt_n _ fgt_0)) ?_
  refine s_aload_n (x := 98) dX12_nextForm_0 rfl ?_
  refine s_dup dX12_nextForm_1 rfl ?_
  refine s_get (c := 98) dX12_nextForm_2 lX12_353 e98 (by decide) ?_
  refine s_iconst dX12_nextForm_5 ?_
  refine s_iadd dX12_nextForm_6 ?_
  refine s_put (c := 98) dX12_nextForm_7 lX12_353 e98 ?_
  exact kk
theorem bX12_nextForm_10 {fr M1 M2 b1 b2 : Nat} {Q : RS → Nat → AH → Prop} {h : AH} {x1 : AV}  (r1 : -2147483648 ≤ h 98 53 ∧ h 98 53 < 2147483648 := by omega) (r2 : -2147483648 ≤ h 98 4 ∧ h 98 4 < 2147483648 := by omega) (kt : h 98 4 ≤ h 98 53 → Wp mX12_nextForm (kR fr M1 M2) Q (b1, b2) 45 [zR 98, none] [] 137 h) (kf : h 98 53 < h 98 4 → Wp mX12_nextForm (kR fr M1 M2) Q (b1, b2) 21 [zR 98, none] [] 137 h) : Wp mX12_nextForm (kR fr M1 M2) Q (b1, b2) 10 [zR 98, x1] [] 137 h := by
  refine s_fgt (fgt_c (fgt_n _ fgt_0)) ?_
  refine s_aload_n (x := 98) dX12_nextForm_10 rfl ?_
  refine s_get (c := 98) dX12_nextForm_11 lX12_353 e98 (by decide) ?_
  refine s_aload_n (x := 98) dX12_nextForm_14 rfl ?_
  refine s_get (c := 98) dX12_nextForm_15 lX12_276 e98 (by decide) ?_
  exact s_icmp_ge (tgt := 45) dX12_nextForm_18 (by decide) r1 r2 kt kf
theorem bX12_nextForm_21 {fr M1 M2 b1 b2 : Nat} {Q : RS → Nat → AH → Prop} {h : AH} {x1 : AV} {R : Int → AH → Prop}   (hS : Sp mX12_linesOf true (fr - 1) 0 0 [zR 98, zI (h 98 53)] 137 h (rI R)) (hf : 1 ≤ fr := by omega) (kk : ∀ (x : Int) (h' : AH), R x h' → Wp mX12_nextForm (kR fr M1 M2) Q (b1, b2) 29 [zR 98, none] [zI x] 137 h') : Wp mX12_nextForm (kR fr M1 M2) Q (b1, b2) 21 [zR 98, x1] [] 137 h := by
  refine s_fgt (fgt_c (fgt_n _ fgt_0)) ?_
  refine s_aload_n (x := 98) dX12_nextForm_21 rfl ?_
  refine s_aload_n (x := 98) dX12_nextForm_22 rfl ?_
  refine s_get (c := 98) dX12_nextForm_23 lX12_353 e98 (by decide) ?_
  exact s_callV (as := [zI (h 98 53)]) (st := []) (o := 98) dX12_nextForm_26 kX12_350 rfl ⟨12, 87, TX12, e98, rfl, by decide⟩ rfl rfl (Nat.le_of_ble_eq_true rfl) hS (show fr - 1 + 1 ≤ fr by omega) (Nat.zero_le _) (Nat.zero_le _) (fun v n' h' hP _ => by obtain ⟨x, e, rfl, hR⟩ := hP; cases e; exact kk x h' hR) (fun E n' h' _ z => (rI_nt _ _ _ z).elim)
theorem bX12_nextForm_29 {fr M1 M2 b1 b2 : Nat} {Q : RS → Nat → AH → Prop} {h : AH} {s0 : Int} {x1 : AV}  (r1 : -2147483648 ≤ s0 ∧ s0 < 2147483648 := by omega) (kt : ¬ s0 = 0 → Wp mX12_nextForm (kR fr M1 M2) Q (b1, b2) 45 [zR 98, none] [] 137 h) (kf : s0 = 0 → Wp mX12_nextForm (kR fr M1 M2) Q (b1, b2) 32 [zR 98, none] [] 137 h) : Wp mX12_nextForm (kR fr M1 M2) Q (b1, b2) 29 [zR 98, x1] [zI s0] 137 h := by
  refine s_fgt (fgt_c (fgt_n _ fgt_0)) ?_
  exact s_if_ne (tgt := 45) dX12_nextForm_29 (by decide) r1 kt kf
theorem bX12_nextForm_32 {fr M1 M2 b1 b2 : Nat} {Q : RS → Nat → AH → Prop} {h : AH} {x1 : AV}   (kk : Wp mX12_nextForm (kR fr M1 M2) Q (b1, b2) 10 [zR 98, none] [] 137 (up h 98 53 ((h 98 53) + 1))) : Wp mX12_nextForm (kR fr M1 M2) Q (b1, b2) 32 [zR 98, x1] [] 137 h := by
  refine s_fgt (fgt_c (fgt_n _ fgt_0)) ?_
  refine s_aload_n (x := 98) dX12_nextForm_32 rfl ?_
  refine s_dup dX12_nextForm_33 rfl ?_
  refine s_get (c := 98) dX12_nextForm_34 lX12_353 e98 (by decide) ?_
  refine s_iconst dX12_nextForm_37 ?_
  refine s_iadd dX12_nextForm_38 ?_
  refine s_put (c := 98) dX12_nextForm_39 lX12_353 e98 ?_
  exact s_goto (tgt := 10) dX12_nextForm_42 (by decide) kk
theorem bX12_nextForm_45 {fr M1 M2 b1 b2 : Nat} {Q : RS → Nat → AH → Prop} {h : AH} {x1 : AV}   (kk : Wp mX12_nextForm (kR fr M1 M2) Q (b1, b2) 47 [zR 98, zI 0] [] 137 h) : Wp mX12_nextForm (kR fr M1 M2) Q (b1, b2) 45 [zR 98, x1] [] 137 h := by
  refine s_fgt (fgt_c (fgt_n _ fgt_0)) ?_
  refine s_iconst dX12_nextForm_45 ?_
  refine s_istore_n dX12_nextForm_46 rfl (by decide) ?_
  exact kk
theorem bX12_nextForm_47 {fr M1 M2 b1 b2 : Nat} {Q : RS → Nat → AH → Prop} {h : AH} {l1 : Int}  (r1 : -2147483648 ≤ l1 ∧ l1 < 2147483648 := by omega) (kt : 3 ≤ l1 → Wp mX12_nextForm (kR fr M1 M2) Q (b1, b2) 108 [zR 98, zI l1] [] 137 h) (kf : l1 < 3 → Wp mX12_nextForm (kR fr M1 M2) Q (b1, b2) 52 [zR 98, zI l1] [] 137 h) : Wp mX12_nextForm (kR fr M1 M2) Q (b1, b2) 47 [zR 98, zI l1] [] 137 h := by
  refine s_iload_n (x := l1) dX12_nextForm_47 rfl ?_
  refine s_iconst dX12_nextForm_48 ?_
  exact s_icmp_ge (tgt := 108) dX12_nextForm_49 (by decide) r1 ⟨by decide, by decide⟩ kt kf
theorem bX12_nextForm_52 {fr M1 M2 b1 b2 : Nat} {Q : RS → Nat → AH → Prop} {h : AH} {l1 : Int}  (r1 : -2147483648 ≤ h 98 53 ∧ h 98 53 < 2147483648 := by omega) (r2 : -2147483648 ≤ h 98 4 ∧ h 98 4 < 2147483648 := by omega) (kt : h 98 4 ≤ h 98 53 → Wp mX12_nextForm (kR fr M1 M2) Q (b1, b2) 108 [zR 98, zI l1] [] 137 h) (kf : h 98 53 < h 98 4 → Wp mX12_nextForm (kR fr M1 M2) Q (b1, b2) 63 [zR 98, zI l1] [] 137 h) : Wp mX12_nextForm (kR fr M1 M2) Q (b1, b2) 52 [zR 98, zI l1] [] 137 h := by
  refine s_aload_n (x := 98) dX12_nextForm_52 rfl ?_
  refine s_get (c := 98) dX12_nextForm_53 lX12_353 e98 (by decide) ?_
  refine s_aload_n (x := 98) dX12_nextForm_56 rfl ?_
  refine s_get (c := 98) dX12_nextForm_57 lX12_276 e98 (by decide) ?_
  exact s_icmp_ge (tgt := 108) dX12_nextForm_60 (by decide) r1 r2 kt kf
theorem bX12_nextForm_63 {fr M1 M2 b1 b2 : Nat} {Q : RS → Nat → AH → Prop} {h : AH} {l1 : Int}  (r1 : 0 ≤ 4 * (h 98 53) ∧ 4 * (h 98 53) < 24 := by omega) (r2 : -2147483648 ≤ l1 ∧ l1 < 2147483648 := by omega) (r3 : -2147483648 ≤ h 102 (4 * (h 98 53)) ∧ h 102 (4 * (h 98 53)) < 2147483648 := by omega) (kt : h 102 (4 * (h 98 53)) ≤ l1 → Wp mX12_nextForm (kR fr M1 M2) Q (b1, b2) 100 [zR 98, zI l1] [zI l1, zR 118] 137 h) (kf : l1 < h 102 (4 * (h 98 53)) → Wp mX12_nextForm (kR fr M1 M2) Q (b1, b2) 83 [zR 98, zI l1] [zI l1, zR 118] 137 h) : Wp mX12_nextForm (kR fr M1 M2) Q (b1, b2) 63 [zR 98, zI l1] [] 137 h := by
  refine s_aload_n (x := 98) dX12_nextForm_63 rfl ?_
  refine s_getFd (c := 98) (d := 118) dX12_nextForm_64 lX12_77 e98 (Or.inl rfl) (by decide) (by decide) ?_
  refine s_iload_n (x := l1) dX12_nextForm_67 rfl ?_
  refine s_iload_n (x := l1) dX12_nextForm_68 rfl ?_
  refine s_aload_n (x := 98) dX12_nextForm_69 rfl ?_
  refine s_getFd (c := 98) (d := 102) dX12_nextForm_70 lX12_23 e98 (Or.inl rfl) (by decide) (by decide) ?_
  refine s_iconst dX12_nextForm_73 ?_
  refine s_aload_n (x := 98) dX12_nextForm_74 rfl ?_
  refine s_get (c := 98) dX12_nextForm_75 lX12_353 e98 (by decide) ?_
  refine s_imul dX12_nextForm_78 ?_
  refine s_iald (c := 102) (i := 4 * (h 98 53)) dX12_nextForm_79 e102 r1.1 r1.2 ?_
  exact s_icmp_ge (tgt := 100) dX12_nextForm_80 (by decide) r2 r3 kt kf
theorem bX12_nextForm_83 {fr M1 M2 b1 b2 : Nat} {Q : RS → Nat → AH → Prop} {h : AH} {l1 s1 s0 : Int} {R : Int → AH → Prop}   (hS : Sp mX12_kindOf true (fr - 1) 0 0 [zR 98, zI (h 98 53), zI l1] 137 h (rI R)) (hf : 1 ≤ fr := by omega) (kk : ∀ (x : Int) (h' : AH), R x h' → Wp mX12_nextForm (kR fr M1 M2) Q (b1, b2) 93 [zR 98, zI l1] [zI x, zR 98, zI s0, zR s1] 137 h') : Wp mX12_nextForm (kR fr M1 M2) Q (b1, b2) 83 [zR 98, zI l1] [zI s0, zR s1] 137 h := by
  refine s_aload_n (x := 98) dX12_nextForm_83 rfl ?_
  refine s_aload_n (x := 98) dX12_nextForm_84 rfl ?_
  refine s_aload_n (x := 98) dX12_nextForm_85 rfl ?_
  refine s_get (c := 98) dX12_nextForm_86 lX12_353 e98 (by decide) ?_
  refine s_iload_n (x := l1) dX12_nextForm_89 rfl ?_
  exact s_callV (as := [zI (h 98 53), zI l1]) (st := [zR 98, zI s0, zR s1]) (o := 98) dX12_nextForm_90 kX12_344 rfl ⟨12, 87, TX12, e98, rfl, by decide⟩ rfl rfl (Nat.le_of_ble_eq_true rfl) hS (show fr - 1 + 1 ≤ fr by omega) (Nat.zero_le _) (Nat.zero_le _) (fun v n' h' hP _ => by obtain ⟨x, e, rfl, hR⟩ := hP; cases e; exact kk x h' hR) (fun E n' h' _ z => (rI_nt _ _ _ z).elim)
theorem bX12_nextForm_93 {fr M1 M2 b1 b2 : Nat} {Q : RS → Nat → AH → Prop} {h : AH} {l1 s3 s2 s0 : Int} {R : Int → AH → Prop}   (hS : Sp mX12_wordBehind true (fr - 1) 0 0 [zR 98, zI s0, zI (-1)] 137 h (rI R)) (hf : 1 ≤ fr := by omega) (kk : ∀ (x : Int) (h' : AH), R x h' → Wp mX12_nextForm (kR fr M1 M2) Q (b1, b2) 97 [zR 98, zI l1] [zI x, zI s2, zR s3] 137 h') : Wp mX12_nextForm (kR fr M1 M2) Q (b1, b2) 93 [zR 98, zI l1] [zI s0, zR 98, zI s2, zR s3] 137 h := by
  refine s_iconst dX12_nextForm_93 ?_
  exact s_callV (as := [zI s0, zI (-1)]) (st := [zI s2, zR s3]) (o := 98) dX12_nextForm_94 kX12_359 rfl ⟨12, 87, TX12, e98, rfl, by decide⟩ rfl rfl (Nat.le_of_ble_eq_true rfl) hS (show fr - 1 + 1 ≤ fr by omega) (Nat.zero_le _) (Nat.zero_le _) (fun v n' h' hP _ => by obtain ⟨x, e, rfl, hR⟩ := hP; cases e; exact kk x h' hR) (fun E n' h' _ z => (rI_nt _ _ _ z).elim)
theorem bX12_nextForm_97 {fr M1 M2 b1 b2 : Nat} {Q : RS → Nat → AH → Prop} {h : AH} {l1 s2 s1 s0 : Int}   (kk : Wp mX12_nextForm (kR fr M1 M2) Q (b1, b2) 101 [zR 98, zI l1] [zI s0, zI s1, zR s2] 137 h) : Wp mX12_nextForm (kR fr M1 M2) Q (b1, b2) 97 [zR 98, zI l1] [zI s0, zI s1, zR s2] 137 h := by
  exact s_goto (tgt := 101) dX12_nextForm_97 (by decide) kk
theorem bX12_nextForm_100 {fr M1 M2 b1 b2 : Nat} {Q : RS → Nat → AH → Prop} {h : AH} {l1 s1 s0 : Int}   (kk : Wp mX12_nextForm (kR fr M1 M2) Q (b1, b2) 101 [zR 98, zI l1] [zI (-1), zI s0, zR s1] 137 h) : Wp mX12_nextForm (kR fr M1 M2) Q (b1, b2) 100 [zR 98, zI l1] [zI s0, zR s1] 137 h := by
  refine s_iconst dX12_nextForm_100 ?_
  exact kk
theorem bX12_nextForm_101 {fr M1 M2 b1 b2 : Nat} {Q : RS → Nat → AH → Prop} {h : AH} {l1 s2 s1 s0 : Int} {N1 : Nat} (c1 : cel 137 s2 (100, N1) := by first | assumption | omega) (r1 : 0 ≤ s1 ∧ s1 < N1 := by omega) (kk : Wp mX12_nextForm (kR fr M1 M2) Q (b1, b2) 47 [zR 98, zI (l1 + 1)] [] 137 (up h s2 s1 s0)) : Wp mX12_nextForm (kR fr M1 M2) Q (b1, b2) 101 [zR 98, zI l1] [zI s0, zI s1, zR s2] 137 h := by
  refine s_iast (c := s2) (i := s1) dX12_nextForm_101 c1 r1.1 r1.2 ?_
  refine s_iinc (x := l1) dX12_nextForm_102 rfl rfl (by decide) ?_
  exact s_goto (tgt := 47) dX12_nextForm_105 (by decide) kk
theorem bX12_nextForm_108 {fr M1 M2 b1 b2 : Nat} {Q : RS → Nat → AH → Prop} {h : AH} {x1 : AV}  (r1 : -2147483648 ≤ h 98 53 ∧ h 98 53 < 2147483648 := by omega) (r2 : -2147483648 ≤ h 98 4 ∧ h 98 4 < 2147483648 := by omega) (kt : h 98 4 ≤ h 98 53 → Wp mX12_nextForm (kR fr M1 M2) Q (b1, b2) 123 [zR 98, none] [] 137 h) (kf : h 98 53 < h 98 4 → Wp mX12_nextForm (kR fr M1 M2) Q (b1, b2) 119 [zR 98, none] [] 137 h) : Wp mX12_nextForm (kR fr M1 M2) Q (b1, b2) 108 [zR 98, x1] [] 137 h := by
  refine s_fgt (fgt_c (fgt_n _ fgt_0)) ?_
  refine s_aload_n (x := 98) dX12_nextForm_108 rfl ?_
  refine s_get (c := 98) dX12_nextForm_109 lX12_353 e98 (by decide) ?_
  refine s_aload_n (x := 98) dX12_nextForm_112 rfl ?_
  refine s_get (c := 98) dX12_nextForm_113 lX12_276 e98 (by decide) ?_
  exact s_icmp_ge (tgt := 123) dX12_nextForm_116 (by decide) r1 r2 kt kf
theorem bX12_nextForm_119 {fr M1 M2 b1 b2 : Nat} {Q : RS → Nat → AH → Prop} {h : AH} {x0 x1 : AV}   (kk : Wp mX12_nextForm (kR fr M1 M2) Q (b1, b2) 124 [none, none] [zI 1] 137 h) : Wp mX12_nextForm (kR fr M1 M2) Q (b1, b2) 119 [x0, x1] [] 137 h := by
  refine s_fgt (fgt_n _ (fgt_n _ fgt_0)) ?_
  refine s_iconst dX12_nextForm_119 ?_
  exact s_goto (tgt := 124) dX12_nextForm_120 (by decide) kk
theorem bX12_nextForm_123 {fr M1 M2 b1 b2 : Nat} {Q : RS → Nat → AH → Prop} {h : AH} {x0 x1 : AV}   (kk : Wp mX12_nextForm (kR fr M1 M2) Q (b1, b2) 124 [none, none] [zI 0] 137 h) : Wp mX12_nextForm (kR fr M1 M2) Q (b1, b2) 123 [x0, x1] [] 137 h := by
  refine s_fgt (fgt_n _ (fgt_n _ fgt_0)) ?_
  refine s_iconst dX12_nextForm_123 ?_
  exact kk
theorem bX12_nextForm_124 {fr M1 M2 b1 b2 : Nat} {Q : RS → Nat → AH → Prop} {h : AH} {s0 : Int} {x0 x1 : AV}  (r1 : s0 = 0 ∨ s0 = 1 := by omega) (hq : Q (.inl (some (zI s0))) 137 h) : Wp mX12_nextForm (kR fr M1 M2) Q (b1, b2) 124 [x0, x1] [zI s0] 137 h := by
  refine s_fgt (fgt_n _ (fgt_n _ fgt_0)) ?_
  exact s_ireturn dX12_nextForm_124 ⟨.boolean, rfl, bool_nar r1⟩ hq (fun z => by cases z)
theorem dX12_nextLine_0 : decode mX12_nextLine.cd 0 = .ok (.aload_n 0, 1) := by decide +kernel
theorem dX12_nextLine_1 : decode mX12_nextLine.cd 1 = .ok (.getfield 23, 3) := by decide +kernel
theorem dX12_nextLine_4 : decode mX12_nextLine.cd 4 = .ok (.iconst 4, 1) := by decide +kernel
theorem dX12_nextLine_5 : decode mX12_nextLine.cd 5 = .ok (.aload_n 0, 1) := by decide +kernel
theorem dX12_nextLine_6 : decode mX12_nextLine.cd 6 = .ok (.getfield 353, 3) := by decide +kernel
theorem dX12_nextLine_9 : decode mX12_nextLine.cd 9 = .ok (.imul, 1) := by decide +kernel
theorem dX12_nextLine_10 : decode mX12_nextLine.cd 10 = .ok (.iaload, 1) := by decide +kernel
theorem dX12_nextLine_11 : decode mX12_nextLine.cd 11 = .ok (.iconst 1, 1) := by decide +kernel
theorem dX12_nextLine_12 : decode mX12_nextLine.cd 12 = .ok (.isub, 1) := by decide +kernel
theorem dX12_nextLine_13 : decode mX12_nextLine.cd 13 = .ok (.istore_n 1, 1) := by decide +kernel
theorem dX12_nextLine_14 : decode mX12_nextLine.cd 14 = .ok (.iload_n 1, 1) := by decide +kernel
theorem dX12_nextLine_15 : decode mX12_nextLine.cd 15 = .ok (.ifCond .lt 91, 3) := by decide +kernel
theorem dX12_nextLine_18 : decode mX12_nextLine.cd 18 = .ok (.aload_n 0, 1) := by decide +kernel
theorem dX12_nextLine_19 : decode mX12_nextLine.cd 19 = .ok (.aload_n 0, 1) := by decide +kernel
theorem dX12_nextLine_20 : decode mX12_nextLine.cd 20 = .ok (.aload_n 0, 1) := by decide +kernel
theorem dX12_nextLine_21 : decode mX12_nextLine.cd 21 = .ok (.getfield 353, 3) := by decide +kernel
theorem dX12_nextLine_24 : decode mX12_nextLine.cd 24 = .ok (.iload_n 1, 1) := by decide +kernel
theorem dX12_nextLine_25 : decode mX12_nextLine.cd 25 = .ok (.invokevirtual 344, 3) := by decide +kernel
theorem dX12_nextLine_28 : decode mX12_nextLine.cd 28 = .ok (.aload_n 0, 1) := by decide +kernel
theorem dX12_nextLine_29 : decode mX12_nextLine.cd 29 = .ok (.getfield 77, 3) := by decide +kernel
theorem dX12_nextLine_32 : decode mX12_nextLine.cd 32 = .ok (.iload_n 1, 1) := by decide +kernel
theorem dX12_nextLine_33 : decode mX12_nextLine.cd 33 = .ok (.iaload, 1) := by decide +kernel
theorem dX12_nextLine_34 : decode mX12_nextLine.cd 34 = .ok (.invokevirtual 359, 3) := by decide +kernel
theorem dX12_nextLine_37 : decode mX12_nextLine.cd 37 = .ok (.istore_n 2, 1) := by decide +kernel
theorem dX12_nextLine_38 : decode mX12_nextLine.cd 38 = .ok (.iload_n 2, 1) := by decide +kernel
theorem dX12_nextLine_39 : decode mX12_nextLine.cd 39 = .ok (.iconst (-1), 1) := by decide +kernel
theorem dX12_nextLine_40 : decode mX12_nextLine.cd 40 = .ok (.if_icmp .ne 6, 3) := by decide +kernel
theorem dX12_nextLine_43 : decode mX12_nextLine.cd 43 = .ok (.goto 57, 3) := by decide +kernel
theorem dX12_nextLine_46 : decode mX12_nextLine.cd 46 = .ok (.aload_n 0, 1) := by decide +kernel
theorem dX12_nextLine_47 : decode mX12_nextLine.cd 47 = .ok (.getfield 77, 3) := by decide +kernel
theorem dX12_nextLine_50 : decode mX12_nextLine.cd 50 = .ok (.iload_n 1, 1) := by decide +kernel
theorem dX12_nextLine_51 : decode mX12_nextLine.cd 51 = .ok (.iload_n 2, 1) := by decide +kernel
theorem dX12_nextLine_52 : decode mX12_nextLine.cd 52 = .ok (.iastore, 1) := by decide +kernel
theorem dX12_nextLine_53 : decode mX12_nextLine.cd 53 = .ok (.iload_n 1, 1) := by decide +kernel
theorem dX12_nextLine_54 : decode mX12_nextLine.cd 54 = .ok (.iconst 1, 1) := by decide +kernel
theorem dX12_nextLine_55 : decode mX12_nextLine.cd 55 = .ok (.iadd, 1) := by decide +kernel
theorem dX12_nextLine_56 : decode mX12_nextLine.cd 56 = .ok (.istore_n 3, 1) := by decide +kernel
theorem dX12_nextLine_57 : decode mX12_nextLine.cd 57 = .ok (.iload_n 3, 1) := by decide +kernel
theorem dX12_nextLine_58 : decode mX12_nextLine.cd 58 = .ok (.aload_n 0, 1) := by decide +kernel
theorem dX12_nextLine_59 : decode mX12_nextLine.cd 59 = .ok (.getfield 23, 3) := by decide +kernel
theorem dX12_nextLine_62 : decode mX12_nextLine.cd 62 = .ok (.iconst 4, 1) := by decide +kernel
theorem dX12_nextLine_63 : decode mX12_nextLine.cd 63 = .ok (.aload_n 0, 1) := by decide +kernel
theorem dX12_nextLine_64 : decode mX12_nextLine.cd 64 = .ok (.getfield 353, 3) := by decide +kernel
theorem dX12_nextLine_67 : decode mX12_nextLine.cd 67 = .ok (.imul, 1) := by decide +kernel
theorem dX12_nextLine_68 : decode mX12_nextLine.cd 68 = .ok (.iaload, 1) := by decide +kernel
theorem dX12_nextLine_69 : decode mX12_nextLine.cd 69 = .ok (.if_icmp .ge 29, 3) := by decide +kernel
theorem dX12_nextLine_72 : decode mX12_nextLine.cd 72 = .ok (.aload_n 0, 1) := by decide +kernel
theorem dX12_nextLine_73 : decode mX12_nextLine.cd 73 = .ok (.getfield 77, 3) := by decide +kernel
theorem dX12_nextLine_76 : decode mX12_nextLine.cd 76 = .ok (.iload_n 3, 1) := by decide +kernel
theorem dX12_nextLine_77 : decode mX12_nextLine.cd 77 = .ok (.aload_n 0, 1) := by decide +kernel
theorem dX12_nextLine_78 : decode mX12_nextLine.cd 78 = .ok (.aload_n 0, 1) := by decide +kernel
theorem dX12_nextLine_79 : decode mX12_nextLine.cd 79 = .ok (.aload_n 0, 1) := by decide +kernel
theorem dX12_nextLine_80 : decode mX12_nextLine.cd 80 = .ok (.getfield 353, 3) := by decide +kernel
theorem dX12_nextLine_83 : decode mX12_nextLine.cd 83 = .ok (.iload_n 3, 1) := by decide +kernel
theorem dX12_nextLine_84 : decode mX12_nextLine.cd 84 = .ok (.invokevirtual 344, 3) := by decide +kernel
theorem dX12_nextLine_87 : decode mX12_nextLine.cd 87 = .ok (.iconst (-1), 1) := by decide +kernel
theorem dX12_nextLine_88 : decode mX12_nextLine.cd 88 = .ok (.invokevirtual 359, 3) := by decide +kernel
theorem dX12_nextLine_91 : decode mX12_nextLine.cd 91 = .ok (.iastore, 1) := by decide +kernel
theorem dX12_nextLine_92 : decode mX12_nextLine.cd 92 = .ok (.iinc 3 1, 3) := by decide +kernel
theorem dX12_nextLine_95 : decode mX12_nextLine.cd 95 = .ok (.goto (-38), 3) := by decide +kernel
theorem dX12_nextLine_98 : decode mX12_nextLine.cd 98 = .ok (.iconst 1, 1) := by decide +kernel
theorem dX12_nextLine_99 : decode mX12_nextLine.cd 99 = .ok (.ireturn, 1) := by decide +kernel
theorem dX12_nextLine_100 : decode mX12_nextLine.cd 100 = .ok (.iinc 1 (-1), 3) := by decide +kernel
theorem dX12_nextLine_103 : decode mX12_nextLine.cd 103 = .ok (.goto (-89), 3) := by decide +kernel
theorem dX12_nextLine_106 : decode mX12_nextLine.cd 106 = .ok (.aload_n 0, 1) := by decide +kernel
theorem dX12_nextLine_107 : decode mX12_nextLine.cd 107 = .ok (.invokevirtual 356, 3) := by decide +kernel
theorem dX12_nextLine_110 : decode mX12_nextLine.cd 110 = .ok (.ireturn, 1) := by decide +kernel
theorem bX12_nextLine_0 {fr M1 M2 b1 b2 : Nat} {Q : RS → Nat → AH → Prop} {h : AH} {x1 x2 x3 : AV}  (r1 : 0 ≤ 4 * (h 98 53) ∧ 4 * (h 98 53) < 24 := by omega) (kk : Wp mX12_nextLine (kR fr M1 M2) Q (b1, b2) 14 [zR 98, zI ((h 102 (4 * (h 98 53))) - 1), none, none] [] 137 h) : Wp mX12_nextLine (kR fr M1 M2) Q (b1, b2) 0 [zR 98, x1, x2, x3] [] 137 h := by
  refine s_fgt (fgt_c (fgt_n _ (fgt_n _ (fgt_n _ fgt_0)))) ?_
  refine s_aload_n (x := 98) dX12_nextLine_0 rfl ?_
  refine s_getFd (c := 98) (d := 102) dX12_nextLine_1 lX12_23 e98 (Or.inl rfl) (by decide) (by decide) ?_
  refine s_iconst dX12_nextLine_4 ?_
  refine s_aload_n (x := 98) dX12_nextLine_5 rfl ?_
  refine s_get (c := 98) dX12_nextLine_6 lX12_353 e98 (by decide) ?_
  refine s_imul dX12_nextLine_9 ?_
  refine s_iald (c := 102) (i := 4 * (h 98 53)) dX12_nextLine_10 e102 r1.1 r1.2 ?_
  refine s_iconst dX12_nextLine_11 ?_
  refine s_isub dX12_nextLine_12 ?_
  refine s_istore_n dX12_nextLine_13 rfl (by decide) ?_
  exact kk
theorem bX12_nextLine_14 {fr M1 M2 b1 b2 : Nat} {Q : RS → Nat → AH → Prop} {h : AH} {l1 : Int} {x2 x3 : AV}  (r1 : -2147483648 ≤ l1 ∧ l1 < 2147483648 := by omega) (kt : l1 < 0 → Wp mX12_nextLine (kR fr M1 M2) Q (b1, b2) 106 [zR 98, zI l1, none, none] [] 137 h) (kf : 0 ≤ l1 → Wp mX12_nextLine (kR fr M1 M2) Q (b1, b2) 18 [zR 98, zI l1, none, none] [] 137 h) : Wp mX12_nextLine (kR fr M1 M2) Q (b1, b2) 14 [zR 98, zI l1, x2, x3] [] 137 h := by
  refine s_fgt (fgt_c (fgt_c (fgt_n _ (fgt_n _ fgt_0)))) ?_
  refine s_iload_n (x := l1) dX12_nextLine_14 rfl ?_
  exact s_if_lt (tgt := 106) dX12_nextLine_15 (by decide) r1 kt kf
theorem bX12_nextLine_18 {fr M1 M2 b1 b2 : Nat} {Q : RS → Nat → AH → Prop} {h : AH} {l1 : Int} {x2 x3 : AV} {R : Int → AH → Prop}   (hS : Sp mX12_kindOf true (fr - 1) 0 0 [zR 98, zI (h 98 53), zI l1] 137 h (rI R)) (hf : 1 ≤ fr := by omega) (kk : ∀ (x : Int) (h' : AH), R x h' → Wp mX12_nextLine (kR fr M1 M2) Q (b1, b2) 28 [zR 98, zI l1, none, none] [zI x, zR 98] 137 h') : Wp mX12_nextLine (kR fr M1 M2) Q (b1, b2) 18 [zR 98, zI l1, x2, x3] [] 137 h := by
  refine s_fgt (fgt_c (fgt_c (fgt_n _ (fgt_n _ fgt_0)))) ?_
  refine s_aload_n (x := 98) dX12_nextLine_18 rfl ?_
  refine s_aload_n (x := 98) dX12_nextLine_19 rfl ?_
  refine s_aload_n (x := 98) dX12_nextLine_20 rfl ?_
  refine s_get (c := 98) dX12_nextLine_21 lX12_353 e98 (by decide) ?_
  refine s_iload_n (x := l1) dX12_nextLine_24 rfl ?_
  exact s_callV (as := [zI (h 98 53), zI l1]) (st := [zR 98]) (o := 98) dX12_nextLine_25 kX12_344 rfl ⟨12, 87, TX12, e98, rfl, by decide⟩ rfl rfl (Nat.le_of_ble_eq_true rfl) hS (show fr - 1 + 1 ≤ fr by omega) (Nat.zero_le _) (Nat.zero_le _) (fun v n' h' hP _ => by obtain ⟨x, e, rfl, hR⟩ := hP; cases e; exact kk x h' hR) (fun E n' h' _ z => (rI_nt _ _ _ z).elim)
theorem bX12_nextLine_28 {fr M1 M2 b1 b2 : Nat} {Q : RS → Nat → AH → Prop} {h : AH} {l1 s0 : Int} {x2 x3 : AV} {R : Int → AH → Prop}  (r1 : 0 ≤ l1 ∧ l1 < 3 := by omega) (hS : Sp mX12_wordBehind true (fr - 1) 0 0 [zR 98, zI s0, zI (h 118 l1)] 137 h (rI R)) (hf : 1 ≤ fr := by omega) (kk : ∀ (x : Int) (h' : AH), R x h' → Wp mX12_nextLine (kR fr M1 M2) Q (b1, b2) 37 [zR 98, zI l1, none, none] [zI x] 137 h') : Wp mX12_nextLine (kR fr M1 M2) Q (b1, b2) 28 [zR 98, zI l1, x2, x3] [zI s0, zR 98] 137 h := by
  refine s_fgt (fgt_c (fgt_c (fgt_n _ (fgt_n _ fgt_0)))) ?_
  refine s_aload_n (x := 98) dX12_nextLine_28 rfl ?_
  refine s_getFd (c := 98) (d := 118) dX12_nextLine_29 lX12_77 e98 (Or.inl rfl) (by decide) (by decide) ?_
  refine s_iload_n (x := l1) dX12_nextLine_32 rfl ?_
  refine s_iald (c := 118) (i := l1) dX12_nextLine_33 e118 r1.1 r1.2 ?_
  exact s_callV (as := [zI s0, zI (h 118 l1)]) (st := []) (o := 98) dX12_nextLine_34 kX12_359 rfl ⟨12, 87, TX12, e98, rfl, by decide⟩ rfl rfl (Nat.le_of_ble_eq_true rfl) hS (show fr - 1 + 1 ≤ fr by omega) (Nat.zero_le _) (Nat.zero_le _) (fun v n' h' hP _ => by obtain ⟨x, e, rfl, hR⟩ := hP; cases e; exact kk x h' hR) (fun E n' h' _ z => (rI_nt _ _ _ z).elim)
theorem bX12_nextLine_37 {fr M1 M2 b1 b2 : Nat} {Q : RS → Nat → AH → Prop} {h : AH} {l1 s0 : Int} {x2 x3 : AV}  (r1 : -2147483648 ≤ s0 ∧ s0 < 2147483648 := by omega) (kt : ¬ s0 = (-1) → Wp mX12_nextLine (kR fr M1 M2) Q (b1, b2) 46 [zR 98, zI l1, zI s0, none] [] 137 h) (kf : s0 = (-1) → Wp mX12_nextLine (kR fr M1 M2) Q (b1, b2) 43 [zR 98, zI l1, zI s0, none] [] 137 h) : Wp mX12_nextLine (kR fr M1 M2) Q (b1, b2) 37 [zR 98, zI l1, x2, x3] [zI s0] 137 h := by
  refine s_fgt (fgt_c (fgt_c (fgt_n _ (fgt_n _ fgt_0)))) ?_
  refine s_istore_n dX12_nextLine_37 rfl (by decide) ?_
  refine s_iload_n (x := s0) dX12_nextLine_38 rfl ?_
  refine s_iconst dX12_nextLine_39 ?_
  exact s_icmp_ne (tgt := 46) dX12_nextLine_40 (by decide) r1 ⟨by decide, by decide⟩ kt kf
theorem bX12_nextLine_43 {fr M1 M2 b1 b2 : Nat} {Q : RS → Nat → AH → Prop} {h : AH} {l1 : Int} {x2 x3 : AV}   (kk : Wp mX12_nextLine (kR fr M1 M2) Q (b1, b2) 100 [zR 98, zI l1, none, none] [] 137 h) : Wp mX12_nextLine (kR fr M1 M2) Q (b1, b2) 43 [zR 98, zI l1, x2, x3] [] 137 h := by
  refine s_fgt (fgt_c (fgt_c (fgt_n _ (fgt_n _ fgt_0)))) ?_
  exact s_goto (tgt := 100) dX12_nextLine_43 (by decide) kk
theorem bX12_nextLine_46 {fr M1 M2 b1 b2 : Nat} {Q : RS → Nat → AH → Prop} {h : AH} {l1 l2 : Int} {x3 : AV}  (r1 : 0 ≤ l1 ∧ l1 < 3 := by omega) (kk : Wp mX12_nextLine (kR fr M1 M2) Q (b1, b2) 57 [zR 98, zI l1, zI l2, zI (l1 + 1)] [] 137 (up h 118 l1 l2)) : Wp mX12_nextLine (kR fr M1 M2) Q (b1, b2) 46 [zR 98, zI l1, zI l2, x3] [] 137 h := by
  refine s_fgt (fgt_c (fgt_c (fgt_c (fgt_n _ fgt_0)))) ?_
  refine s_aload_n (x := 98) dX12_nextLine_46 rfl ?_
  refine s_getFd (c := 98) (d := 118) dX12_nextLine_47 lX12_77 e98 (Or.inl rfl) (by decide) (by decide) ?_
  refine s_iload_n (x := l1) dX12_nextLine_50 rfl ?_
  refine s_iload_n (x := l2) dX12_nextLine_51 rfl ?_
  refine s_iast (c := 118) (i := l1) dX12_nextLine_52 e118 r1.1 r1.2 ?_
  refine s_iload_n (x := l1) dX12_nextLine_53 rfl ?_
  refine s_iconst dX12_nextLine_54 ?_
  refine s_iadd dX12_nextLine_55 ?_
  refine s_istore_n dX12_nextLine_56 rfl (by decide) ?_
  exact kk
theorem bX12_nextLine_57 {fr M1 M2 b1 b2 : Nat} {Q : RS → Nat → AH → Prop} {h : AH} {l3 : Int} {x1 x2 : AV}  (r1 : 0 ≤ 4 * (h 98 53) ∧ 4 * (h 98 53) < 24 := by omega) (r2 : -2147483648 ≤ l3 ∧ l3 < 2147483648 := by omega) (r3 : -2147483648 ≤ h 102 (4 * (h 98 53)) ∧ h 102 (4 * (h 98 53)) < 2147483648 := by omega) (kt : h 102 (4 * (h 98 53)) ≤ l3 → Wp mX12_nextLine (kR fr M1 M2) Q (b1, b2) 98 [zR 98, none, none, zI l3] [] 137 h) (kf : l3 < h 102 (4 * (h 98 53)) → Wp mX12_nextLine (kR fr M1 M2) Q (b1, b2) 72 [zR 98, none, none, zI l3] [] 137 h) : Wp mX12_nextLine (kR fr M1 M2) Q (b1, b2) 57 [zR 98, x1, x2, zI l3] [] 137 h := by
  refine s_fgt (fgt_c (fgt_n _ (fgt_n _ (fgt_c fgt_0)))) ?_
  refine s_iload_n (x := l3) dX12_nextLine_57 rfl ?_
  refine s_aload_n (x := 98) dX12_nextLine_58 rfl ?_
  refine s_getFd (c := 98) (d := 102) dX12_nextLine_59 lX12_23 e98 (Or.inl rfl) (by decide) (by decide) ?_
  refine s_iconst dX12_nextLine_62 ?_
  refine s_aload_n (x := 98) dX12_nextLine_63 rfl ?_
  refine s_get (c := 98) dX12_nextLine_64 lX12_353 e98 (by decide) ?_
  refine s_imul dX12_nextLine_67 ?_
  refine s_iald (c := 102) (i := 4 * (h 98 53)) dX12_nextLine_68 e102 r1.1 r1.2 ?_
  exact s_icmp_ge (tgt := 98) dX12_nextLine_69 (by decide) r2 r3 kt kf
theorem bX12_nextLine_72 {fr M1 M2 b1 b2 : Nat} {Q : RS → Nat → AH → Prop} {h : AH} {l3 : Int} {x1 x2 : AV} {R : Int → AH → Prop}   (hS : Sp mX12_kindOf true (fr - 1) 0 0 [zR 98, zI (h 98 53), zI l3] 137 h (rI R)) (hf : 1 ≤ fr := by omega) (kk : ∀ (x : Int) (h' : AH), R x h' → Wp mX12_nextLine (kR fr M1 M2) Q (b1, b2) 87 [zR 98, none, none, zI l3] [zI x, zR 98, zI l3, zR 118] 137 h') : Wp mX12_nextLine (kR fr M1 M2) Q (b1, b2) 72 [zR 98, x1, x2, zI l3] [] 137 h := by
  refine s_fgt (fgt_c (fgt_n _ (fgt_n _ (fgt_c fgt_0)))) ?_
  refine s_aload_n (x := 98) dX12_nextLine_72 rfl ?_
  refine s_getFd (c := 98) (d := 118) dX12_nextLine_73 lX12_77 e98 (Or.inl rfl) (by decide) (by decide) ?_
  refine s_iload_n (x := l3) dX12_nextLine_76 rfl ?_
  refine s_aload_n (x := 98) dX12_nextLine_77 rfl ?_
  refine s_aload_n (x := 98) dX12_nextLine_78 rfl ?_
  refine s_aload_n (x := 98) dX12_nextLine_79 rfl ?_
  refine s_get (c := 98) dX12_nextLine_80 lX12_353 e98 (by decide) ?_
  refine s_iload_n (x := l3) dX12_nextLine_83 rfl ?_
  exact s_callV (as := [zI (h 98 53), zI l3]) (st := [zR 98, zI l3, zR 118]) (o := 98) dX12_nextLine_84 kX12_344 rfl ⟨12, 87, TX12, e98, rfl, by decide⟩ rfl rfl (Nat.le_of_ble_eq_true rfl) hS (show fr - 1 + 1 ≤ fr by omega) (Nat.zero_le _) (Nat.zero_le _) (fun v n' h' hP _ => by obtain ⟨x, e, rfl, hR⟩ := hP; cases e; exact kk x h' hR) (fun E n' h' _ z => (rI_nt _ _ _ z).elim)
theorem bX12_nextLine_87 {fr M1 M2 b1 b2 : Nat} {Q : RS → Nat → AH → Prop} {h : AH} {l3 s3 s2 s0 : Int} {x1 x2 : AV} {R : Int → AH → Prop}   (hS : Sp mX12_wordBehind true (fr - 1) 0 0 [zR 98, zI s0, zI (-1)] 137 h (rI R)) (hf : 1 ≤ fr := by omega) (kk : ∀ (x : Int) (h' : AH), R x h' → Wp mX12_nextLine (kR fr M1 M2) Q (b1, b2) 91 [zR 98, none, none, zI l3] [zI x, zI s2, zR s3] 137 h') : Wp mX12_nextLine (kR fr M1 M2) Q (b1, b2) 87 [zR 98, x1, x2, zI l3] [zI s0, zR 98, zI s2, zR s3] 137 h := by
  refine s_fgt (fgt_c (fgt_n _ (fgt_n _ (fgt_c fgt_0)))) ?_
  refine s_iconst dX12_nextLine_87 ?_
  exact s_callV (as := [zI s0, zI (-1)]) (st := [zI s2, zR s3]) (o := 98) dX12_nextLine_88 kX12_359 rfl ⟨12, 87, TX12, e98, rfl, by decide⟩ rfl rfl (Nat.le_of_ble_eq_true rfl) hS (show fr - 1 + 1 ≤ fr by omega) (Nat.zero_le _) (Nat.zero_le _) (fun v n' h' hP _ => by obtain ⟨x, e, rfl, hR⟩ := hP; cases e; exact kk x h' hR) (fun E n' h' _ z => (rI_nt _ _ _ z).elim)
theorem bX12_nextLine_91 {fr M1 M2 b1 b2 : Nat} {Q : RS → Nat → AH → Prop} {h : AH} {l3 s2 s1 s0 : Int} {N1 : Nat} {x1 x2 : AV} (c1 : cel 137 s2 (100, N1) := by first | assumption | omega) (r1 : 0 ≤ s1 ∧ s1 < N1 := by omega) (kk : Wp mX12_nextLine (kR fr M1 M2) Q (b1, b2) 57 [zR 98, none, none, zI (l3 + 1)] [] 137 (up h s2 s1 s0)) : Wp mX12_nextLine (kR fr M1 M2) Q (b1, b2) 91 [zR 98, x1, x2, zI l3] [zI s0, zI s1, zR s2] 137 h := by
  refine s_fgt (fgt_c (fgt_n _ (fgt_n _ (fgt_c fgt_0)))) ?_
  refine s_iast (c := s2) (i := s1) dX12_nextLine_91 c1 r1.1 r1.2 ?_
  refine s_iinc (x := l3) dX12_nextLine_92 rfl rfl (by decide) ?_
  exact s_goto (tgt := 57) dX12_nextLine_95 (by decide) kk
theorem bX12_nextLine_98 {fr M1 M2 b1 b2 : Nat} {Q : RS → Nat → AH → Prop} {h : AH} {x0 x1 x2 x3 : AV}   (hq : Q (.inl (some (zI 1))) 137 h) : Wp mX12_nextLine (kR fr M1 M2) Q (b1, b2) 98 [x0, x1, x2, x3] [] 137 h := by
  refine s_fgt (fgt_n _ (fgt_n _ (fgt_n _ (fgt_n _ fgt_0)))) ?_
  refine s_iconst dX12_nextLine_98 ?_
  exact s_ireturn dX12_nextLine_99 ⟨.boolean, rfl, by decide⟩ hq (fun z => by cases z)
theorem bX12_nextLine_100 {fr M1 M2 b1 b2 : Nat} {Q : RS → Nat → AH → Prop} {h : AH} {l1 : Int} {x2 x3 : AV}   (kk : Wp mX12_nextLine (kR fr M1 M2) Q (b1, b2) 14 [zR 98, zI (l1 + (-1)), none, none] [] 137 h) : Wp mX12_nextLine (kR fr M1 M2) Q (b1, b2) 100 [zR 98, zI l1, x2, x3] [] 137 h := by
  refine s_fgt (fgt_c (fgt_c (fgt_n _ (fgt_n _ fgt_0)))) ?_
  refine s_iinc (x := l1) dX12_nextLine_100 rfl rfl (by decide) ?_
  exact s_goto (tgt := 14) dX12_nextLine_103 (by decide) kk
theorem bX12_nextLine_106 {fr M1 M2 b1 b2 : Nat} {Q : RS → Nat → AH → Prop} {h : AH} {x1 x2 x3 : AV} {R : Int → AH → Prop}   (hS : Sp mX12_nextForm true (fr - 1) 0 0 [zR 98] 137 h (rI R)) (hf : 1 ≤ fr := by omega) (kk : ∀ (x : Int) (h' : AH), R x h' → Wp mX12_nextLine (kR fr M1 M2) Q (b1, b2) 110 [zR 98, none, none, none] [zI x] 137 h') : Wp mX12_nextLine (kR fr M1 M2) Q (b1, b2) 106 [zR 98, x1, x2, x3] [] 137 h := by
  refine s_fgt (fgt_c (fgt_n _ (fgt_n _ (fgt_n _ fgt_0)))) ?_
  refine s_aload_n (x := 98) dX12_nextLine_106 rfl ?_
  exact s_callV (as := []) (st := []) (o := 98) dX12_nextLine_107 kX12_356 rfl ⟨12, 87, TX12, e98, rfl, by decide⟩ rfl rfl (Nat.le_of_ble_eq_true rfl) hS (show fr - 1 + 1 ≤ fr by omega) (Nat.zero_le _) (Nat.zero_le _) (fun v n' h' hP _ => by obtain ⟨x, e, rfl, hR⟩ := hP; cases e; exact kk x h' hR) (fun E n' h' _ z => (rI_nt _ _ _ z).elim)
theorem bX12_nextLine_110 {fr M1 M2 b1 b2 : Nat} {Q : RS → Nat → AH → Prop} {h : AH} {s0 : Int} {x0 x1 x2 x3 : AV}  (r1 : s0 = 0 ∨ s0 = 1 := by omega) (hq : Q (.inl (some (zI s0))) 137 h) : Wp mX12_nextLine (kR fr M1 M2) Q (b1, b2) 110 [x0, x1, x2, x3] [zI s0] 137 h := by
  refine s_fgt (fgt_n _ (fgt_n _ (fgt_n _ (fgt_n _ fgt_0)))) ?_
  exact s_ireturn dX12_nextLine_110 ⟨.boolean, rfl, bool_nar r1⟩ hq (fun z => by cases z)
theorem dX12_speaks_0 : decode mX12_speaks.cd 0 = .ok (.aload_n 0, 1) := by decide +kernel
theorem dX12_speaks_1 : decode mX12_speaks.cd 1 = .ok (.iconst 0, 1) := by decide +kernel
theorem dX12_speaks_2 : decode mX12_speaks.cd 2 = .ok (.putfield 362, 3) := by decide +kernel
theorem dX12_speaks_5 : decode mX12_speaks.cd 5 = .ok (.iconst 0, 1) := by decide +kernel
theorem dX12_speaks_6 : decode mX12_speaks.cd 6 = .ok (.istore_n 1, 1) := by decide +kernel
theorem dX12_speaks_7 : decode mX12_speaks.cd 7 = .ok (.iload_n 1, 1) := by decide +kernel
theorem dX12_speaks_8 : decode mX12_speaks.cd 8 = .ok (.aload_n 0, 1) := by decide +kernel
theorem dX12_speaks_9 : decode mX12_speaks.cd 9 = .ok (.getfield 23, 3) := by decide +kernel
theorem dX12_speaks_12 : decode mX12_speaks.cd 12 = .ok (.iconst 4, 1) := by decide +kernel
theorem dX12_speaks_13 : decode mX12_speaks.cd 13 = .ok (.aload_n 0, 1) := by decide +kernel
theorem dX12_speaks_14 : decode mX12_speaks.cd 14 = .ok (.getfield 353, 3) := by decide +kernel
theorem dX12_speaks_17 : decode mX12_speaks.cd 17 = .ok (.imul, 1) := by decide +kernel
theorem dX12_speaks_18 : decode mX12_speaks.cd 18 = .ok (.iaload, 1) := by decide +kernel
theorem dX12_speaks_19 : decode mX12_speaks.cd 19 = .ok (.if_icmp .ge 74, 3) := by decide +kernel
theorem dX12_speaks_22 : decode mX12_speaks.cd 22 = .ok (.iconst 0, 1) := by decide +kernel
theorem dX12_speaks_23 : decode mX12_speaks.cd 23 = .ok (.istore_n 2, 1) := by decide +kernel
theorem dX12_speaks_24 : decode mX12_speaks.cd 24 = .ok (.iload_n 2, 1) := by decide +kernel
theorem dX12_speaks_25 : decode mX12_speaks.cd 25 = .ok (.aload_n 0, 1) := by decide +kernel
theorem dX12_speaks_26 : decode mX12_speaks.cd 26 = .ok (.getfield 20, 3) := by decide +kernel
theorem dX12_speaks_29 : decode mX12_speaks.cd 29 = .ok (.bipush 6, 2) := by decide +kernel
theorem dX12_speaks_31 : decode mX12_speaks.cd 31 = .ok (.aload_n 0, 1) := by decide +kernel
theorem dX12_speaks_32 : decode mX12_speaks.cd 32 = .ok (.getfield 77, 3) := by decide +kernel
theorem dX12_speaks_35 : decode mX12_speaks.cd 35 = .ok (.iload_n 1, 1) := by decide +kernel
theorem dX12_speaks_36 : decode mX12_speaks.cd 36 = .ok (.iaload, 1) := by decide +kernel
theorem dX12_speaks_37 : decode mX12_speaks.cd 37 = .ok (.imul, 1) := by decide +kernel
theorem dX12_speaks_38 : decode mX12_speaks.cd 38 = .ok (.iconst 1, 1) := by decide +kernel
theorem dX12_speaks_39 : decode mX12_speaks.cd 39 = .ok (.iadd, 1) := by decide +kernel
theorem dX12_speaks_40 : decode mX12_speaks.cd 40 = .ok (.iaload, 1) := by decide +kernel
theorem dX12_speaks_41 : decode mX12_speaks.cd 41 = .ok (.if_icmp .ge 46, 3) := by decide +kernel
theorem dX12_speaks_44 : decode mX12_speaks.cd 44 = .ok (.aload_n 0, 1) := by decide +kernel
theorem dX12_speaks_45 : decode mX12_speaks.cd 45 = .ok (.getfield 80, 3) := by decide +kernel
theorem dX12_speaks_48 : decode mX12_speaks.cd 48 = .ok (.aload_n 0, 1) := by decide +kernel
theorem dX12_speaks_49 : decode mX12_speaks.cd 49 = .ok (.getfield 362, 3) := by decide +kernel
theorem dX12_speaks_52 : decode mX12_speaks.cd 52 = .ok (.aload_n 0, 1) := by decide +kernel
theorem dX12_speaks_53 : decode mX12_speaks.cd 53 = .ok (.getfield 20, 3) := by decide +kernel
theorem dX12_speaks_56 : decode mX12_speaks.cd 56 = .ok (.bipush 6, 2) := by decide +kernel
theorem dX12_speaks_58 : decode mX12_speaks.cd 58 = .ok (.aload_n 0, 1) := by decide +kernel
theorem dX12_speaks_59 : decode mX12_speaks.cd 59 = .ok (.getfield 77, 3) := by decide +kernel
theorem dX12_speaks_62 : decode mX12_speaks.cd 62 = .ok (.iload_n 1, 1) := by decide +kernel
theorem dX12_speaks_63 : decode mX12_speaks.cd 63 = .ok (.iaload, 1) := by decide +kernel
theorem dX12_speaks_64 : decode mX12_speaks.cd 64 = .ok (.imul, 1) := by decide +kernel
theorem dX12_speaks_65 : decode mX12_speaks.cd 65 = .ok (.iconst 2, 1) := by decide +kernel
theorem dX12_speaks_66 : decode mX12_speaks.cd 66 = .ok (.iadd, 1) := by decide +kernel
theorem dX12_speaks_67 : decode mX12_speaks.cd 67 = .ok (.iload_n 2, 1) := by decide +kernel
theorem dX12_speaks_68 : decode mX12_speaks.cd 68 = .ok (.iadd, 1) := by decide +kernel
theorem dX12_speaks_69 : decode mX12_speaks.cd 69 = .ok (.iaload, 1) := by decide +kernel
theorem dX12_speaks_70 : decode mX12_speaks.cd 70 = .ok (.iastore, 1) := by decide +kernel
theorem dX12_speaks_71 : decode mX12_speaks.cd 71 = .ok (.aload_n 0, 1) := by decide +kernel
theorem dX12_speaks_72 : decode mX12_speaks.cd 72 = .ok (.dup, 1) := by decide +kernel
theorem dX12_speaks_73 : decode mX12_speaks.cd 73 = .ok (.getfield 362, 3) := by decide +kernel
theorem dX12_speaks_76 : decode mX12_speaks.cd 76 = .ok (.iconst 1, 1) := by decide +kernel
theorem dX12_speaks_77 : decode mX12_speaks.cd 77 = .ok (.iadd, 1) := by decide +kernel
theorem dX12_speaks_78 : decode mX12_speaks.cd 78 = .ok (.putfield 362, 3) := by decide +kernel
theorem dX12_speaks_81 : decode mX12_speaks.cd 81 = .ok (.iinc 2 1, 3) := by decide +kernel
theorem dX12_speaks_84 : decode mX12_speaks.cd 84 = .ok (.goto (-60), 3) := by decide +kernel
theorem dX12_speaks_87 : decode mX12_speaks.cd 87 = .ok (.iinc 1 1, 3) := by decide +kernel
theorem dX12_speaks_90 : decode mX12_speaks.cd 90 = .ok (.goto (-83), 3) := by decide +kernel
theorem dX12_speaks_93 : decode mX12_speaks.cd 93 = .ok (.return_, 1) := by decide +kernel
theorem bX12_speaks_0 {fr M1 M2 b1 b2 : Nat} {Q : RS → Nat → AH → Prop} {h : AH} {x1 x2 : AV}   (kk : Wp mX12_speaks (kR fr M1 M2) Q (b1, b2) 7 [zR 98, zI 0, none] [] 137 (up h 98 57 0)) : Wp mX12_speaks (kR fr M1 M2) Q (b1, b2) 0 [zR 98, x1, x2] [] 137 h := by
  refine s_fgt (fgt_c (fgt_n _ (fgt_n _ fgt_0))) ?_
  refine s_aload_n (x := 98) dX12_speaks_0 rfl ?_
  refine s_iconst dX12_speaks_1 ?_
  refine s_put (c := 98) dX12_speaks_2 lX12_362 e98 ?_
  refine s_iconst dX12_speaks_5 ?_
  refine s_istore_n dX12_speaks_6 rfl (by decide) ?_
  exact kk
theorem bX12_speaks_7 {fr M1 M2 b1 b2 : Nat} {Q : RS → Nat → AH → Prop} {h : AH} {l1 : Int} {x2 : AV}  (r1 : 0 ≤ 4 * (h 98 53) ∧ 4 * (h 98 53) < 24 := by omega) (r2 : -2147483648 ≤ l1 ∧ l1 < 2147483648 := by omega) (r3 : -2147483648 ≤ h 102 (4 * (h 98 53)) ∧ h 102 (4 * (h 98 53)) < 2147483648 := by omega) (kt : h 102 (4 * (h 98 53)) ≤ l1 → Wp mX12_speaks (kR fr M1 M2) Q (b1, b2) 93 [zR 98, zI l1, none] [] 137 h) (kf : l1 < h 102 (4 * (h 98 53)) → Wp mX12_speaks (kR fr M1 M2) Q (b1, b2) 22 [zR 98, zI l1, none] [] 137 h) : Wp mX12_speaks (kR fr M1 M2) Q (b1, b2) 7 [zR 98, zI l1, x2] [] 137 h := by
  refine s_fgt (fgt_c (fgt_c (fgt_n _ fgt_0))) ?_
  refine s_iload_n (x := l1) dX12_speaks_7 rfl ?_
  refine s_aload_n (x := 98) dX12_speaks_8 rfl ?_
  refine s_getFd (c := 98) (d := 102) dX12_speaks_9 lX12_23 e98 (Or.inl rfl) (by decide) (by decide) ?_
  refine s_iconst dX12_speaks_12 ?_
  refine s_aload_n (x := 98) dX12_speaks_13 rfl ?_
  refine s_get (c := 98) dX12_speaks_14 lX12_353 e98 (by decide) ?_
  refine s_imul dX12_speaks_17 ?_
  refine s_iald (c := 102) (i := 4 * (h 98 53)) dX12_speaks_18 e102 r1.1 r1.2 ?_
  exact s_icmp_ge (tgt := 93) dX12_speaks_19 (by decide) r2 r3 kt kf
theorem bX12_speaks_22 {fr M1 M2 b1 b2 : Nat} {Q : RS → Nat → AH → Prop} {h : AH} {l1 : Int} {x2 : AV}   (kk : Wp mX12_speaks (kR fr M1 M2) Q (b1, b2) 24 [zR 98, zI l1, zI 0] [] 137 h) : Wp mX12_speaks (kR fr M1 M2) Q (b1, b2) 22 [zR 98, zI l1, x2] [] 137 h := by
  refine s_fgt (fgt_c (fgt_c (fgt_n _ fgt_0))) ?_
  refine s_iconst dX12_speaks_22 ?_
  refine s_istore_n dX12_speaks_23 rfl (by decide) ?_
  exact kk
theorem bX12_speaks_24 {fr M1 M2 b1 b2 : Nat} {Q : RS → Nat → AH → Prop} {h : AH} {l1 l2 : Int}  (r1 : 0 ≤ l1 ∧ l1 < 3 := by omega) (r2 : 0 ≤ (6 * (h 118 l1)) + 1 ∧ (6 * (h 118 l1)) + 1 < 48 := by omega) (r3 : -2147483648 ≤ l2 ∧ l2 < 2147483648 := by omega) (r4 : -2147483648 ≤ h 101 ((6 * (h 118 l1)) + 1) ∧ h 101 ((6 * (h 118 l1)) + 1) < 2147483648 := by omega) (kt : h 101 ((6 * (h 118 l1)) + 1) ≤ l2 → Wp mX12_speaks (kR fr M1 M2) Q (b1, b2) 87 [zR 98, zI l1, zI l2] [] 137 h) (kf : l2 < h 101 ((6 * (h 118 l1)) + 1) → Wp mX12_speaks (kR fr M1 M2) Q (b1, b2) 44 [zR 98, zI l1, zI l2] [] 137 h) : Wp mX12_speaks (kR fr M1 M2) Q (b1, b2) 24 [zR 98, zI l1, zI l2] [] 137 h := by
  refine s_iload_n (x := l2) dX12_speaks_24 rfl ?_
  refine s_aload_n (x := 98) dX12_speaks_25 rfl ?_
  refine s_getFd (c := 98) (d := 101) dX12_speaks_26 lX12_20 e98 (Or.inl rfl) (by decide) (by decide) ?_
  refine s_bipush dX12_speaks_29 (by decide) ?_
  refine s_aload_n (x := 98) dX12_speaks_31 rfl ?_
  refine s_getFd (c := 98) (d := 118) dX12_speaks_32 lX12_77 e98 (Or.inl rfl) (by decide) (by decide) ?_
  refine s_iload_n (x := l1) dX12_speaks_35 rfl ?_
  refine s_iald (c := 118) (i := l1) dX12_speaks_36 e118 r1.1 r1.2 ?_
  refine s_imul dX12_speaks_37 ?_
  refine s_iconst dX12_speaks_38 ?_
  refine s_iadd dX12_speaks_39 ?_
  refine s_iald (c := 101) (i := (6 * (h 118 l1)) + 1) dX12_speaks_40 e101 r2.1 r2.2 ?_
  exact s_icmp_ge (tgt := 87) dX12_speaks_41 (by decide) r3 r4 kt kf
theorem bX12_speaks_44 {fr M1 M2 b1 b2 : Nat} {Q : RS → Nat → AH → Prop} {h : AH} {l1 l2 : Int}  (r1 : 0 ≤ l1 ∧ l1 < 3 := by omega) (r2 : 0 ≤ ((6 * (h 118 l1)) + 2) + l2 ∧ ((6 * (h 118 l1)) + 2) + l2 < 48 := by omega) (r3 : 0 ≤ h 98 57 ∧ h 98 57 < 12 := by omega) (kk : Wp mX12_speaks (kR fr M1 M2) Q (b1, b2) 24 [zR 98, zI l1, zI (l2 + 1)] [] 137 (up (up h 119 (h 98 57) (h 101 (((6 * (h 118 l1)) + 2) + l2))) 98 57 ((h 98 57) + 1))) : Wp mX12_speaks (kR fr M1 M2) Q (b1, b2) 44 [zR 98, zI l1, zI l2] [] 137 h := by
  refine s_aload_n (x := 98) dX12_speaks_44 rfl ?_
  refine s_getFd (c := 98) (d := 119) dX12_speaks_45 lX12_80 e98 (Or.inl rfl) (by decide) (by decide) ?_
  refine s_aload_n (x := 98) dX12_speaks_48 rfl ?_
  refine s_get (c := 98) dX12_speaks_49 lX12_362 e98 (by decide) ?_
  refine s_aload_n (x := 98) dX12_speaks_52 rfl ?_
  refine s_getFd (c := 98) (d := 101) dX12_speaks_53 lX12_20 e98 (Or.inl rfl) (by decide) (by decide) ?_
  refine s_bipush dX12_speaks_56 (by decide) ?_
  refine s_aload_n (x := 98) dX12_speaks_58 rfl ?_
  refine s_getFd (c := 98) (d := 118) dX12_speaks_59 lX12_77 e98 (Or.inl rfl) (by decide) (by decide) ?_
  refine s_iload_n (x := l1) dX12_speaks_62 rfl ?_
  refine s_iald (c := 118) (i := l1) dX12_speaks_63 e118 r1.1 r1.2 ?_
  refine s_imul dX12_speaks_64 ?_
  refine s_iconst dX12_speaks_65 ?_
  refine s_iadd dX12_speaks_66 ?_
  refine s_iload_n (x := l2) dX12_speaks_67 rfl ?_
  refine s_iadd dX12_speaks_68 ?_
  refine s_iald (c := 101) (i := ((6 * (h 118 l1)) + 2) + l2) dX12_speaks_69 e101 r2.1 r2.2 ?_
  refine s_iast (c := 119) (i := h 98 57) dX12_speaks_70 e119 r3.1 r3.2 ?_
  refine s_aload_n (x := 98) dX12_speaks_71 rfl ?_
  refine s_dup dX12_speaks_72 rfl ?_
  refine s_get (c := 98) dX12_speaks_73 lX12_362 e98 (by decide) ?_
  refine s_iconst dX12_speaks_76 ?_
  refine s_iadd dX12_speaks_77 ?_
  refine s_put (c := 98) dX12_speaks_78 lX12_362 e98 ?_
  refine s_iinc (x := l2) dX12_speaks_81 rfl rfl (by decide) ?_
  exact s_goto (tgt := 24) dX12_speaks_84 (by decide) kk
theorem bX12_speaks_87 {fr M1 M2 b1 b2 : Nat} {Q : RS → Nat → AH → Prop} {h : AH} {l1 : Int} {x2 : AV}   (kk : Wp mX12_speaks (kR fr M1 M2) Q (b1, b2) 7 [zR 98, zI (l1 + 1), none] [] 137 h) : Wp mX12_speaks (kR fr M1 M2) Q (b1, b2) 87 [zR 98, zI l1, x2] [] 137 h := by
  refine s_fgt (fgt_c (fgt_c (fgt_n _ fgt_0))) ?_
  refine s_iinc (x := l1) dX12_speaks_87 rfl rfl (by decide) ?_
  exact s_goto (tgt := 7) dX12_speaks_90 (by decide) kk
theorem bX12_speaks_93 {fr M1 M2 b1 b2 : Nat} {Q : RS → Nat → AH → Prop} {h : AH} {x0 x1 x2 : AV}   (hq : Q (.inl none) 137 h) : Wp mX12_speaks (kR fr M1 M2) Q (b1, b2) 93 [x0, x1, x2] [] 137 h := by
  refine s_fgt (fgt_n _ (fgt_n _ (fgt_n _ fgt_0))) ?_
  exact s_return dX12_speaks_93 rfl hq (fun z => by cases z)
theorem dX12_returns_0 : decode mX12_returns.cd 0 = .ok (.aload_n 0, 1) := by decide +kernel
theorem dX12_returns_1 : decode mX12_returns.cd 1 = .ok (.invokevirtual 365, 3) := by decide +kernel
theorem dX12_returns_4 : decode mX12_returns.cd 4 = .ok (.aload_n 0, 1) := by decide +kernel
theorem dX12_returns_5 : decode mX12_returns.cd 5 = .ok (.sipush 160, 3) := by decide +kernel
theorem dX12_returns_8 : decode mX12_returns.cd 8 = .ok (.iconst 0, 1) := by decide +kernel
theorem dX12_returns_9 : decode mX12_returns.cd 9 = .ok (.iload_n 1, 1) := by decide +kernel
theorem dX12_returns_10 : decode mX12_returns.cd 10 = .ok (.invokevirtual 328, 3) := by decide +kernel
theorem dX12_returns_13 : decode mX12_returns.cd 13 = .ok (.iconst 0, 1) := by decide +kernel
theorem dX12_returns_14 : decode mX12_returns.cd 14 = .ok (.istore_n 2, 1) := by decide +kernel
theorem dX12_returns_15 : decode mX12_returns.cd 15 = .ok (.iload_n 2, 1) := by decide +kernel
theorem dX12_returns_16 : decode mX12_returns.cd 16 = .ok (.aload_n 0, 1) := by decide +kernel
theorem dX12_returns_17 : decode mX12_returns.cd 17 = .ok (.getfield 362, 3) := by decide +kernel
theorem dX12_returns_20 : decode mX12_returns.cd 20 = .ok (.if_icmp .ge 20, 3) := by decide +kernel
theorem dX12_returns_23 : decode mX12_returns.cd 23 = .ok (.aload_n 0, 1) := by decide +kernel
theorem dX12_returns_24 : decode mX12_returns.cd 24 = .ok (.aload_n 0, 1) := by decide +kernel
theorem dX12_returns_25 : decode mX12_returns.cd 25 = .ok (.getfield 80, 3) := by decide +kernel
theorem dX12_returns_28 : decode mX12_returns.cd 28 = .ok (.iload_n 2, 1) := by decide +kernel
theorem dX12_returns_29 : decode mX12_returns.cd 29 = .ok (.iaload, 1) := by decide +kernel
theorem dX12_returns_30 : decode mX12_returns.cd 30 = .ok (.iload_n 2, 1) := by decide +kernel
theorem dX12_returns_31 : decode mX12_returns.cd 31 = .ok (.invokevirtual 331, 3) := by decide +kernel
theorem dX12_returns_34 : decode mX12_returns.cd 34 = .ok (.iinc 2 1, 3) := by decide +kernel
theorem dX12_returns_37 : decode mX12_returns.cd 37 = .ok (.goto (-22), 3) := by decide +kernel
theorem dX12_returns_40 : decode mX12_returns.cd 40 = .ok (.aload_n 0, 1) := by decide +kernel
theorem dX12_returns_41 : decode mX12_returns.cd 41 = .ok (.iconst 0, 1) := by decide +kernel
theorem dX12_returns_42 : decode mX12_returns.cd 42 = .ok (.putfield 368, 3) := by decide +kernel
theorem dX12_returns_45 : decode mX12_returns.cd 45 = .ok (.aload_n 0, 1) := by decide +kernel
theorem dX12_returns_46 : decode mX12_returns.cd 46 = .ok (.getfield 362, 3) := by decide +kernel
theorem dX12_returns_49 : decode mX12_returns.cd 49 = .ok (.istore_n 2, 1) := by decide +kernel
theorem dX12_returns_50 : decode mX12_returns.cd 50 = .ok (.iload_n 2, 1) := by decide +kernel
theorem dX12_returns_51 : decode mX12_returns.cd 51 = .ok (.sipush 160, 3) := by decide +kernel
theorem dX12_returns_54 : decode mX12_returns.cd 54 = .ok (.if_icmp .ge 43, 3) := by decide +kernel
theorem dX12_returns_57 : decode mX12_returns.cd 57 = .ok (.aload_n 0, 1) := by decide +kernel
theorem dX12_returns_58 : decode mX12_returns.cd 58 = .ok (.iload_n 2, 1) := by decide +kernel
theorem dX12_returns_59 : decode mX12_returns.cd 59 = .ok (.invokevirtual 341, 3) := by decide +kernel
theorem dX12_returns_62 : decode mX12_returns.cd 62 = .ok (.istore_n 3, 1) := by decide +kernel
theorem dX12_returns_63 : decode mX12_returns.cd 63 = .ok (.iload_n 3, 1) := by decide +kernel
theorem dX12_returns_64 : decode mX12_returns.cd 64 = .ok (.iconst (-1), 1) := by decide +kernel
theorem dX12_returns_65 : decode mX12_returns.cd 65 = .ok (.if_icmp .ne 6, 3) := by decide +kernel
theorem dX12_returns_68 : decode mX12_returns.cd 68 = .ok (.goto 23, 3) := by decide +kernel
theorem dX12_returns_71 : decode mX12_returns.cd 71 = .ok (.aload_n 0, 1) := by decide +kernel
theorem dX12_returns_72 : decode mX12_returns.cd 72 = .ok (.getfield 83, 3) := by decide +kernel
theorem dX12_returns_75 : decode mX12_returns.cd 75 = .ok (.aload_n 0, 1) := by decide +kernel
theorem dX12_returns_76 : decode mX12_returns.cd 76 = .ok (.getfield 368, 3) := by decide +kernel
theorem dX12_returns_79 : decode mX12_returns.cd 79 = .ok (.iload_n 3, 1) := by decide +kernel
theorem dX12_returns_80 : decode mX12_returns.cd 80 = .ok (.iastore, 1) := by decide +kernel
theorem dX12_returns_81 : decode mX12_returns.cd 81 = .ok (.aload_n 0, 1) := by decide +kernel
theorem dX12_returns_82 : decode mX12_returns.cd 82 = .ok (.dup, 1) := by decide +kernel
theorem dX12_returns_83 : decode mX12_returns.cd 83 = .ok (.getfield 368, 3) := by decide +kernel
theorem dX12_returns_86 : decode mX12_returns.cd 86 = .ok (.iconst 1, 1) := by decide +kernel
theorem dX12_returns_87 : decode mX12_returns.cd 87 = .ok (.iadd, 1) := by decide +kernel
theorem dX12_returns_88 : decode mX12_returns.cd 88 = .ok (.putfield 368, 3) := by decide +kernel
theorem dX12_returns_91 : decode mX12_returns.cd 91 = .ok (.iinc 2 1, 3) := by decide +kernel
theorem dX12_returns_94 : decode mX12_returns.cd 94 = .ok (.goto (-44), 3) := by decide +kernel
theorem dX12_returns_97 : decode mX12_returns.cd 97 = .ok (.return_, 1) := by decide +kernel
theorem bX12_returns_0 {fr M1 M2 b1 b2 : Nat} {Q : RS → Nat → AH → Prop} {h : AH} {l1 : Int} {x2 x3 : AV} {R : AH → Prop}   (hS : Sp mX12_speaks true (fr - 1) 0 0 [zR 98] 137 h (rV R)) (hf : 1 ≤ fr := by omega) (kk : ∀ h' : AH, R h' → Wp mX12_returns (kR fr M1 M2) Q (b1, b2) 4 [zR 98, zI l1, none, none] [] 137 h') : Wp mX12_returns (kR fr M1 M2) Q (b1, b2) 0 [zR 98, zI l1, x2, x3] [] 137 h := by
  refine s_fgt (fgt_c (fgt_c (fgt_n _ (fgt_n _ fgt_0)))) ?_
  refine s_aload_n (x := 98) dX12_returns_0 rfl ?_
  exact s_callV (as := []) (st := []) (o := 98) dX12_returns_1 kX12_365 rfl ⟨12, 87, TX12, e98, rfl, by decide⟩ rfl rfl (Nat.le_of_ble_eq_true rfl) hS (show fr - 1 + 1 ≤ fr by omega) (Nat.zero_le _) (Nat.zero_le _) (fun v n' h' hP _ => by obtain ⟨e, rfl, hR⟩ := hP; cases e; exact kk h' hR) (fun E n' h' _ z => (rV_nt _ _ _ z).elim)
theorem bX12_returns_4 {fr M1 M2 b1 b2 : Nat} {Q : RS → Nat → AH → Prop} {h : AH} {l1 : Int} {x2 x3 : AV} {R : AH → Prop}   (hS : Sp mX12_opens true (fr - 1) 0 0 [zR 98, zI 160, zI 0, zI l1] 137 h (rV R)) (hf : 1 ≤ fr := by omega) (kk : ∀ h' : AH, R h' → Wp mX12_returns (kR fr M1 M2) Q (b1, b2) 13 [zR 98, zI l1, none, none] [] 137 h') : Wp mX12_returns (kR fr M1 M2) Q (b1, b2) 4 [zR 98, zI l1, x2, x3] [] 137 h := by
  refine s_fgt (fgt_c (fgt_c (fgt_n _ (fgt_n _ fgt_0)))) ?_
  refine s_aload_n (x := 98) dX12_returns_4 rfl ?_
  refine s_sipush dX12_returns_5 (by decide) ?_
  refine s_iconst dX12_returns_8 ?_
  refine s_iload_n (x := l1) dX12_returns_9 rfl ?_
  exact s_callV (as := [zI 160, zI 0, zI l1]) (st := []) (o := 98) dX12_returns_10 kX12_328 rfl ⟨12, 87, TX12, e98, rfl, by decide⟩ rfl rfl (Nat.le_of_ble_eq_true rfl) hS (show fr - 1 + 1 ≤ fr by omega) (Nat.zero_le _) (Nat.zero_le _) (fun v n' h' hP _ => by obtain ⟨e, rfl, hR⟩ := hP; cases e; exact kk h' hR) (fun E n' h' _ z => (rV_nt _ _ _ z).elim)
theorem bX12_returns_13 {fr M1 M2 b1 b2 : Nat} {Q : RS → Nat → AH → Prop} {h : AH} {x1 x2 x3 : AV}   (kk : Wp mX12_returns (kR fr M1 M2) Q (b1, b2) 15 [zR 98, none, zI 0, none] [] 137 h) : Wp mX12_returns (kR fr M1 M2) Q (b1, b2) 13 [zR 98, x1, x2, x3] [] 137 h := by
  refine s_fgt (fgt_c (fgt_n _ (fgt_n _ (fgt_n _ fgt_0)))) ?_
  refine s_iconst dX12_returns_13 ?_
  refine s_istore_n dX12_returns_14 rfl (by decide) ?_
  exact kk
theorem bX12_returns_15 {fr M1 M2 b1 b2 : Nat} {Q : RS → Nat → AH → Prop} {h : AH} {l2 : Int} {x1 x3 : AV}  (r1 : -2147483648 ≤ l2 ∧ l2 < 2147483648 := by omega) (r2 : -2147483648 ≤ h 98 57 ∧ h 98 57 < 2147483648 := by omega) (kt : h 98 57 ≤ l2 → Wp mX12_returns (kR fr M1 M2) Q (b1, b2) 40 [zR 98, none, zI l2, none] [] 137 h) (kf : l2 < h 98 57 → Wp mX12_returns (kR fr M1 M2) Q (b1, b2) 23 [zR 98, none, zI l2, none] [] 137 h) : Wp mX12_returns (kR fr M1 M2) Q (b1, b2) 15 [zR 98, x1, zI l2, x3] [] 137 h := by
  refine s_fgt (fgt_c (fgt_n _ (fgt_c (fgt_n _ fgt_0)))) ?_
  refine s_iload_n (x := l2) dX12_returns_15 rfl ?_
  refine s_aload_n (x := 98) dX12_returns_16 rfl ?_
  refine s_get (c := 98) dX12_returns_17 lX12_362 e98 (by decide) ?_
  exact s_icmp_ge (tgt := 40) dX12_returns_20 (by decide) r1 r2 kt kf
theorem bX12_returns_23 {fr M1 M2 b1 b2 : Nat} {Q : RS → Nat → AH → Prop} {h : AH} {l2 : Int} {x1 x3 : AV} {R : AH → Prop}  (r1 : 0 ≤ l2 ∧ l2 < 12 := by omega) (hS : Sp mX12_says true (fr - 1) 0 0 [zR 98, zI (h 119 l2), zI l2] 137 h (rV R)) (hf : 1 ≤ fr := by omega) (kk : ∀ h' : AH, R h' → Wp mX12_returns (kR fr M1 M2) Q (b1, b2) 34 [zR 98, none, zI l2, none] [] 137 h') : Wp mX12_returns (kR fr M1 M2) Q (b1, b2) 23 [zR 98, x1, zI l2, x3] [] 137 h := by
  refine s_fgt (fgt_c (fgt_n _ (fgt_c (fgt_n _ fgt_0)))) ?_
  refine s_aload_n (x := 98) dX12_returns_23 rfl ?_
  refine s_aload_n (x := 98) dX12_returns_24 rfl ?_
  refine s_getFd (c := 98) (d := 119) dX12_returns_25 lX12_80 e98 (Or.inl rfl) (by decide) (by decide) ?_
  refine s_iload_n (x := l2) dX12_returns_28 rfl ?_
  refine s_iald (c := 119) (i := l2) dX12_returns_29 e119 r1.1 r1.2 ?_
  refine s_iload_n (x := l2) dX12_returns_30 rfl ?_
  exact s_callV (as := [zI (h 119 l2), zI l2]) (st := []) (o := 98) dX12_returns_31 kX12_331 rfl ⟨12, 87, TX12, e98, rfl, by decide⟩ rfl rfl (Nat.le_of_ble_eq_true rfl) hS (show fr - 1 + 1 ≤ fr by omega) (Nat.zero_le _) (Nat.zero_le _) (fun v n' h' hP _ => by obtain ⟨e, rfl, hR⟩ := hP; cases e; exact kk h' hR) (fun E n' h' _ z => (rV_nt _ _ _ z).elim)
theorem bX12_returns_34 {fr M1 M2 b1 b2 : Nat} {Q : RS → Nat → AH → Prop} {h : AH} {l2 : Int} {x1 x3 : AV}   (kk : Wp mX12_returns (kR fr M1 M2) Q (b1, b2) 15 [zR 98, none, zI (l2 + 1), none] [] 137 h) : Wp mX12_returns (kR fr M1 M2) Q (b1, b2) 34 [zR 98, x1, zI l2, x3] [] 137 h := by
  refine s_fgt (fgt_c (fgt_n _ (fgt_c (fgt_n _ fgt_0)))) ?_
  refine s_iinc (x := l2) dX12_returns_34 rfl rfl (by decide) ?_
  exact s_goto (tgt := 15) dX12_returns_37 (by decide) kk
theorem bX12_returns_40 {fr M1 M2 b1 b2 : Nat} {Q : RS → Nat → AH → Prop} {h : AH} {x1 x2 x3 : AV}   (kk : Wp mX12_returns (kR fr M1 M2) Q (b1, b2) 50 [zR 98, none, zI (h 98 57), none] [] 137 (up h 98 58 0)) : Wp mX12_returns (kR fr M1 M2) Q (b1, b2) 40 [zR 98, x1, x2, x3] [] 137 h := by
  refine s_fgt (fgt_c (fgt_n _ (fgt_n _ (fgt_n _ fgt_0)))) ?_
  refine s_aload_n (x := 98) dX12_returns_40 rfl ?_
  refine s_iconst dX12_returns_41 ?_
  refine s_put (c := 98) dX12_returns_42 lX12_368 e98 ?_
  refine s_aload_n (x := 98) dX12_returns_45 rfl ?_
  refine s_get (c := 98) dX12_returns_46 lX12_362 e98 (by decide) ?_
  refine s_istore_n dX12_returns_49 rfl (by decide) ?_
  exact kk
theorem bX12_returns_50 {fr M1 M2 b1 b2 : Nat} {Q : RS → Nat → AH → Prop} {h : AH} {l2 : Int} {x1 x3 : AV}  (r1 : -2147483648 ≤ l2 ∧ l2 < 2147483648 := by omega) (kt : 160 ≤ l2 → Wp mX12_returns (kR fr M1 M2) Q (b1, b2) 97 [zR 98, none, zI l2, none] [] 137 h) (kf : l2 < 160 → Wp mX12_returns (kR fr M1 M2) Q (b1, b2) 57 [zR 98, none, zI l2, none] [] 137 h) : Wp mX12_returns (kR fr M1 M2) Q (b1, b2) 50 [zR 98, x1, zI l2, x3] [] 137 h := by
  refine s_fgt (fgt_c (fgt_n _ (fgt_c (fgt_n _ fgt_0)))) ?_
  refine s_iload_n (x := l2) dX12_returns_50 rfl ?_
  refine s_sipush dX12_returns_51 (by decide) ?_
  exact s_icmp_ge (tgt := 97) dX12_returns_54 (by decide) r1 ⟨by decide, by decide⟩ kt kf
theorem bX12_returns_57 {fr M1 M2 b1 b2 : Nat} {Q : RS → Nat → AH → Prop} {h : AH} {l2 : Int} {x1 x3 : AV} {R : Int → AH → Prop}   (hS : Sp mX12_hears true (fr - 1) 0 0 [zR 98, zI l2] 137 h (rI R)) (hf : 1 ≤ fr := by omega) (kk : ∀ (x : Int) (h' : AH), R x h' → Wp mX12_returns (kR fr M1 M2) Q (b1, b2) 62 [zR 98, none, zI l2, none] [zI x] 137 h') : Wp mX12_returns (kR fr M1 M2) Q (b1, b2) 57 [zR 98, x1, zI l2, x3] [] 137 h := by
  refine s_fgt (fgt_c (fgt_n _ (fgt_c (fgt_n _ fgt_0)))) ?_
  refine s_aload_n (x := 98) dX12_returns_57 rfl ?_
  refine s_iload_n (x := l2) dX12_returns_58 rfl ?_
  exact s_callV (as := [zI l2]) (st := []) (o := 98) dX12_returns_59 kX12_341 rfl ⟨12, 87, TX12, e98, rfl, by decide⟩ rfl rfl (Nat.le_of_ble_eq_true rfl) hS (show fr - 1 + 1 ≤ fr by omega) (Nat.zero_le _) (Nat.zero_le _) (fun v n' h' hP _ => by obtain ⟨x, e, rfl, hR⟩ := hP; cases e; exact kk x h' hR) (fun E n' h' _ z => (rI_nt _ _ _ z).elim)
theorem bX12_returns_62 {fr M1 M2 b1 b2 : Nat} {Q : RS → Nat → AH → Prop} {h : AH} {l2 s0 : Int} {x1 x3 : AV}  (r1 : -2147483648 ≤ s0 ∧ s0 < 2147483648 := by omega) (kt : ¬ s0 = (-1) → Wp mX12_returns (kR fr M1 M2) Q (b1, b2) 71 [zR 98, none, zI l2, zI s0] [] 137 h) (kf : s0 = (-1) → Wp mX12_returns (kR fr M1 M2) Q (b1, b2) 68 [zR 98, none, zI l2, zI s0] [] 137 h) : Wp mX12_returns (kR fr M1 M2) Q (b1, b2) 62 [zR 98, x1, zI l2, x3] [zI s0] 137 h := by
  refine s_fgt (fgt_c (fgt_n _ (fgt_c (fgt_n _ fgt_0)))) ?_
  refine s_istore_n dX12_returns_62 rfl (by decide) ?_
  refine s_iload_n (x := s0) dX12_returns_63 rfl ?_
  refine s_iconst dX12_returns_64 ?_
  exact s_icmp_ne (tgt := 71) dX12_returns_65 (by decide) r1 ⟨by decide, by decide⟩ kt kf
theorem bX12_returns_68 {fr M1 M2 b1 b2 : Nat} {Q : RS → Nat → AH → Prop} {h : AH} {l2 : Int} {x1 x3 : AV}   (kk : Wp mX12_returns (kR fr M1 M2) Q (b1, b2) 91 [zR 98, none, zI l2, none] [] 137 h) : Wp mX12_returns (kR fr M1 M2) Q (b1, b2) 68 [zR 98, x1, zI l2, x3] [] 137 h := by
  refine s_fgt (fgt_c (fgt_n _ (fgt_c (fgt_n _ fgt_0)))) ?_
  exact s_goto (tgt := 91) dX12_returns_68 (by decide) kk
theorem bX12_returns_71 {fr M1 M2 b1 b2 : Nat} {Q : RS → Nat → AH → Prop} {h : AH} {l2 l3 : Int} {x1 : AV}  (r1 : 0 ≤ h 98 58 ∧ h 98 58 < 160 := by omega) (kk : Wp mX12_returns (kR fr M1 M2) Q (b1, b2) 91 [zR 98, none, zI l2, zI l3] [] 137 (up (up h 120 (h 98 58) l3) 98 58 ((h 98 58) + 1))) : Wp mX12_returns (kR fr M1 M2) Q (b1, b2) 71 [zR 98, x1, zI l2, zI l3] [] 137 h := by
  refine s_fgt (fgt_c (fgt_n _ (fgt_c (fgt_c fgt_0)))) ?_
  refine s_aload_n (x := 98) dX12_returns_71 rfl ?_
  refine s_getFd (c := 98) (d := 120) dX12_returns_72 lX12_83 e98 (Or.inl rfl) (by decide) (by decide) ?_
  refine s_aload_n (x := 98) dX12_returns_75 rfl ?_
  refine s_get (c := 98) dX12_returns_76 lX12_368 e98 (by decide) ?_
  refine s_iload_n (x := l3) dX12_returns_79 rfl ?_
  refine s_iast (c := 120) (i := h 98 58) dX12_returns_80 e120 r1.1 r1.2 ?_
  refine s_aload_n (x := 98) dX12_returns_81 rfl ?_
  refine s_dup dX12_returns_82 rfl ?_
  refine s_get (c := 98) dX12_returns_83 lX12_368 e98 (by decide) ?_
  refine s_iconst dX12_returns_86 ?_
  refine s_iadd dX12_returns_87 ?_
  refine s_put (c := 98) dX12_returns_88 lX12_368 e98 ?_
  exact kk
theorem bX12_returns_91 {fr M1 M2 b1 b2 : Nat} {Q : RS → Nat → AH → Prop} {h : AH} {l2 : Int} {x1 x3 : AV}   (kk : Wp mX12_returns (kR fr M1 M2) Q (b1, b2) 50 [zR 98, none, zI (l2 + 1), none] [] 137 h) : Wp mX12_returns (kR fr M1 M2) Q (b1, b2) 91 [zR 98, x1, zI l2, x3] [] 137 h := by
  refine s_fgt (fgt_c (fgt_n _ (fgt_c (fgt_n _ fgt_0)))) ?_
  refine s_iinc (x := l2) dX12_returns_91 rfl rfl (by decide) ?_
  exact s_goto (tgt := 50) dX12_returns_94 (by decide) kk
theorem bX12_returns_97 {fr M1 M2 b1 b2 : Nat} {Q : RS → Nat → AH → Prop} {h : AH} {x0 x1 x2 x3 : AV}   (hq : Q (.inl none) 137 h) : Wp mX12_returns (kR fr M1 M2) Q (b1, b2) 97 [x0, x1, x2, x3] [] 137 h := by
  refine s_fgt (fgt_n _ (fgt_n _ (fgt_n _ (fgt_n _ fgt_0)))) ?_
  exact s_return dX12_returns_97 rfl hq (fun z => by cases z)
theorem dX12_isWordAt_0 : decode mX12_isWordAt.cd 0 = .ok (.iload_n 2, 1) := by decide +kernel
theorem dX12_isWordAt_1 : decode mX12_isWordAt.cd 1 = .ok (.aload_n 0, 1) := by decide +kernel
theorem dX12_isWordAt_2 : decode mX12_isWordAt.cd 2 = .ok (.getfield 20, 3) := by decide +kernel
theorem dX12_isWordAt_5 : decode mX12_isWordAt.cd 5 = .ok (.bipush 6, 2) := by decide +kernel
theorem dX12_isWordAt_7 : decode mX12_isWordAt.cd 7 = .ok (.iload_n 1, 1) := by decide +kernel
theorem dX12_isWordAt_8 : decode mX12_isWordAt.cd 8 = .ok (.imul, 1) := by decide +kernel
theorem dX12_isWordAt_9 : decode mX12_isWordAt.cd 9 = .ok (.iconst 1, 1) := by decide +kernel
theorem dX12_isWordAt_10 : decode mX12_isWordAt.cd 10 = .ok (.iadd, 1) := by decide +kernel
theorem dX12_isWordAt_11 : decode mX12_isWordAt.cd 11 = .ok (.iaload, 1) := by decide +kernel
theorem dX12_isWordAt_12 : decode mX12_isWordAt.cd 12 = .ok (.iadd, 1) := by decide +kernel
theorem dX12_isWordAt_13 : decode mX12_isWordAt.cd 13 = .ok (.aload_n 0, 1) := by decide +kernel
theorem dX12_isWordAt_14 : decode mX12_isWordAt.cd 14 = .ok (.getfield 368, 3) := by decide +kernel
theorem dX12_isWordAt_17 : decode mX12_isWordAt.cd 17 = .ok (.if_icmp .le 5, 3) := by decide +kernel
theorem dX12_isWordAt_20 : decode mX12_isWordAt.cd 20 = .ok (.iconst 0, 1) := by decide +kernel
theorem dX12_isWordAt_21 : decode mX12_isWordAt.cd 21 = .ok (.ireturn, 1) := by decide +kernel
theorem dX12_isWordAt_22 : decode mX12_isWordAt.cd 22 = .ok (.iconst 0, 1) := by decide +kernel
theorem dX12_isWordAt_23 : decode mX12_isWordAt.cd 23 = .ok (.istore_n 3, 1) := by decide +kernel
theorem dX12_isWordAt_24 : decode mX12_isWordAt.cd 24 = .ok (.iload_n 3, 1) := by decide +kernel
theorem dX12_isWordAt_25 : decode mX12_isWordAt.cd 25 = .ok (.aload_n 0, 1) := by decide +kernel
theorem dX12_isWordAt_26 : decode mX12_isWordAt.cd 26 = .ok (.getfield 20, 3) := by decide +kernel
theorem dX12_isWordAt_29 : decode mX12_isWordAt.cd 29 = .ok (.bipush 6, 2) := by decide +kernel
theorem dX12_isWordAt_31 : decode mX12_isWordAt.cd 31 = .ok (.iload_n 1, 1) := by decide +kernel
theorem dX12_isWordAt_32 : decode mX12_isWordAt.cd 32 = .ok (.imul, 1) := by decide +kernel
theorem dX12_isWordAt_33 : decode mX12_isWordAt.cd 33 = .ok (.iconst 1, 1) := by decide +kernel
theorem dX12_isWordAt_34 : decode mX12_isWordAt.cd 34 = .ok (.iadd, 1) := by decide +kernel
theorem dX12_isWordAt_35 : decode mX12_isWordAt.cd 35 = .ok (.iaload, 1) := by decide +kernel
theorem dX12_isWordAt_36 : decode mX12_isWordAt.cd 36 = .ok (.if_icmp .ge 35, 3) := by decide +kernel
theorem dX12_isWordAt_39 : decode mX12_isWordAt.cd 39 = .ok (.aload_n 0, 1) := by decide +kernel
theorem dX12_isWordAt_40 : decode mX12_isWordAt.cd 40 = .ok (.getfield 83, 3) := by decide +kernel
theorem dX12_isWordAt_43 : decode mX12_isWordAt.cd 43 = .ok (.iload_n 2, 1) := by decide +kernel
theorem dX12_isWordAt_44 : decode mX12_isWordAt.cd 44 = .ok (.iload_n 3, 1) := by decide +kernel
theorem dX12_isWordAt_45 : decode mX12_isWordAt.cd 45 = .ok (.iadd, 1) := by decide +kernel
theorem dX12_isWordAt_46 : decode mX12_isWordAt.cd 46 = .ok (.iaload, 1) := by decide +kernel
theorem dX12_isWordAt_47 : decode mX12_isWordAt.cd 47 = .ok (.aload_n 0, 1) := by decide +kernel
theorem dX12_isWordAt_48 : decode mX12_isWordAt.cd 48 = .ok (.getfield 20, 3) := by decide +kernel
theorem dX12_isWordAt_51 : decode mX12_isWordAt.cd 51 = .ok (.bipush 6, 2) := by decide +kernel
theorem dX12_isWordAt_53 : decode mX12_isWordAt.cd 53 = .ok (.iload_n 1, 1) := by decide +kernel
theorem dX12_isWordAt_54 : decode mX12_isWordAt.cd 54 = .ok (.imul, 1) := by decide +kernel
theorem dX12_isWordAt_55 : decode mX12_isWordAt.cd 55 = .ok (.iconst 2, 1) := by decide +kernel
theorem dX12_isWordAt_56 : decode mX12_isWordAt.cd 56 = .ok (.iadd, 1) := by decide +kernel
theorem dX12_isWordAt_57 : decode mX12_isWordAt.cd 57 = .ok (.iload_n 3, 1) := by decide +kernel
theorem dX12_isWordAt_58 : decode mX12_isWordAt.cd 58 = .ok (.iadd, 1) := by decide +kernel
theorem dX12_isWordAt_59 : decode mX12_isWordAt.cd 59 = .ok (.iaload, 1) := by decide +kernel
theorem dX12_isWordAt_60 : decode mX12_isWordAt.cd 60 = .ok (.if_icmp .eq 5, 3) := by decide +kernel
theorem dX12_isWordAt_63 : decode mX12_isWordAt.cd 63 = .ok (.iconst 0, 1) := by decide +kernel
theorem dX12_isWordAt_64 : decode mX12_isWordAt.cd 64 = .ok (.ireturn, 1) := by decide +kernel
theorem dX12_isWordAt_65 : decode mX12_isWordAt.cd 65 = .ok (.iinc 3 1, 3) := by decide +kernel
theorem dX12_isWordAt_68 : decode mX12_isWordAt.cd 68 = .ok (.goto (-44), 3) := by decide +kernel
theorem dX12_isWordAt_71 : decode mX12_isWordAt.cd 71 = .ok (.iconst 1, 1) := by decide +kernel
theorem dX12_isWordAt_72 : decode mX12_isWordAt.cd 72 = .ok (.ireturn, 1) := by decide +kernel
theorem bX12_isWordAt_0 {fr M1 M2 b1 b2 : Nat} {Q : RS → Nat → AH → Prop} {h : AH} {l1 l2 : Int} {x3 : AV}  (r1 : 0 ≤ (6 * l1) + 1 ∧ (6 * l1) + 1 < 48 := by omega) (r2 : -2147483648 ≤ l2 + (h 101 ((6 * l1) + 1)) ∧ l2 + (h 101 ((6 * l1) + 1)) < 2147483648 := by omega) (r3 : -2147483648 ≤ h 98 58 ∧ h 98 58 < 2147483648 := by omega) (kt : l2 + (h 101 ((6 * l1) + 1)) ≤ h 98 58 → Wp mX12_isWordAt (kR fr M1 M2) Q (b1, b2) 22 [zR 98, zI l1, zI l2, none] [] 137 h) (kf : h 98 58 < l2 + (h 101 ((6 * l1) + 1)) → Wp mX12_isWordAt (kR fr M1 M2) Q (b1, b2) 20 [zR 98, zI l1, zI l2, none] [] 137 h) : Wp mX12_isWordAt (kR fr M1 M2) Q (b1, b2) 0 [zR 98, zI l1, zI l2, x3] [] 137 h := by
  refine s_fgt (fgt_c (fgt_c (fgt_c (fgt_n _ fgt_0)))) ?_
  refine s_iload_n (x := l2) dX12_isWordAt_0 rfl ?_
  refine s_aload_n (x := 98) dX12_isWordAt_1 rfl ?_
  refine s_getFd (c := 98) (d := 101) dX12_isWordAt_2 lX12_20 e98 (Or.inl rfl) (by decide) (by decide) ?_
  refine s_bipush dX12_isWordAt_5 (by decide) ?_
  refine s_iload_n (x := l1) dX12_isWordAt_7 rfl ?_
  refine s_imul dX12_isWordAt_8 ?_
  refine s_iconst dX12_isWordAt_9 ?_
  refine s_iadd dX12_isWordAt_10 ?_
  refine s_iald (c := 101) (i := (6 * l1) + 1) dX12_isWordAt_11 e101 r1.1 r1.2 ?_
  refine s_iadd dX12_isWordAt_12 ?_
  refine s_aload_n (x := 98) dX12_isWordAt_13 rfl ?_
  refine s_get (c := 98) dX12_isWordAt_14 lX12_368 e98 (by decide) ?_
  exact s_icmp_le (tgt := 22) dX12_isWordAt_17 (by decide) r2 r3 kt kf
theorem bX12_isWordAt_20 {fr M1 M2 b1 b2 : Nat} {Q : RS → Nat → AH → Prop} {h : AH} {x0 x1 x2 x3 : AV}   (hq : Q (.inl (some (zI 0))) 137 h) : Wp mX12_isWordAt (kR fr M1 M2) Q (b1, b2) 20 [x0, x1, x2, x3] [] 137 h := by
  refine s_fgt (fgt_n _ (fgt_n _ (fgt_n _ (fgt_n _ fgt_0)))) ?_
  refine s_iconst dX12_isWordAt_20 ?_
  exact s_ireturn dX12_isWordAt_21 ⟨.boolean, rfl, by decide⟩ hq (fun z => by cases z)
theorem bX12_isWordAt_22 {fr M1 M2 b1 b2 : Nat} {Q : RS → Nat → AH → Prop} {h : AH} {l1 l2 : Int} {x3 : AV}   (kk : Wp mX12_isWordAt (kR fr M1 M2) Q (b1, b2) 24 [zR 98, zI l1, zI l2, zI 0] [] 137 h) : Wp mX12_isWordAt (kR fr M1 M2) Q (b1, b2) 22 [zR 98, zI l1, zI l2, x3] [] 137 h := by
  refine s_fgt (fgt_c (fgt_c (fgt_c (fgt_n _ fgt_0)))) ?_
  refine s_iconst dX12_isWordAt_22 ?_
  refine s_istore_n dX12_isWordAt_23 rfl (by decide) ?_
  exact kk
theorem bX12_isWordAt_24 {fr M1 M2 b1 b2 : Nat} {Q : RS → Nat → AH → Prop} {h : AH} {l1 l2 l3 : Int}  (r1 : 0 ≤ (6 * l1) + 1 ∧ (6 * l1) + 1 < 48 := by omega) (r2 : -2147483648 ≤ l3 ∧ l3 < 2147483648 := by omega) (r3 : -2147483648 ≤ h 101 ((6 * l1) + 1) ∧ h 101 ((6 * l1) + 1) < 2147483648 := by omega) (kt : h 101 ((6 * l1) + 1) ≤ l3 → Wp mX12_isWordAt (kR fr M1 M2) Q (b1, b2) 71 [zR 98, zI l1, zI l2, zI l3] [] 137 h) (kf : l3 < h 101 ((6 * l1) + 1) → Wp mX12_isWordAt (kR fr M1 M2) Q (b1, b2) 39 [zR 98, zI l1, zI l2, zI l3] [] 137 h) : Wp mX12_isWordAt (kR fr M1 M2) Q (b1, b2) 24 [zR 98, zI l1, zI l2, zI l3] [] 137 h := by
  refine s_iload_n (x := l3) dX12_isWordAt_24 rfl ?_
  refine s_aload_n (x := 98) dX12_isWordAt_25 rfl ?_
  refine s_getFd (c := 98) (d := 101) dX12_isWordAt_26 lX12_20 e98 (Or.inl rfl) (by decide) (by decide) ?_
  refine s_bipush dX12_isWordAt_29 (by decide) ?_
  refine s_iload_n (x := l1) dX12_isWordAt_31 rfl ?_
  refine s_imul dX12_isWordAt_32 ?_
  refine s_iconst dX12_isWordAt_33 ?_
  refine s_iadd dX12_isWordAt_34 ?_
  refine s_iald (c := 101) (i := (6 * l1) + 1) dX12_isWordAt_35 e101 r1.1 r1.2 ?_
  exact s_icmp_ge (tgt := 71) dX12_isWordAt_36 (by decide) r2 r3 kt kf
theorem bX12_isWordAt_39 {fr M1 M2 b1 b2 : Nat} {Q : RS → Nat → AH → Prop} {h : AH} {l1 l2 l3 : Int}  (r1 : 0 ≤ l2 + l3 ∧ l2 + l3 < 160 := by omega) (r2 : 0 ≤ ((6 * l1) + 2) + l3 ∧ ((6 * l1) + 2) + l3 < 48 := by omega) (r3 : -2147483648 ≤ h 120 (l2 + l3) ∧ h 120 (l2 + l3) < 2147483648 := by omega) (r4 : -2147483648 ≤ h 101 (((6 * l1) + 2) + l3) ∧ h 101 (((6 * l1) + 2) + l3) < 2147483648 := by omega) (kt : h 120 (l2 + l3) = h 101 (((6 * l1) + 2) + l3) → Wp mX12_isWordAt (kR fr M1 M2) Q (b1, b2) 65 [zR 98, zI l1, zI l2, zI l3] [] 137 h) (kf : ¬ h 120 (l2 + l3) = h 101 (((6 * l1) + 2) + l3) → Wp mX12_isWordAt (kR fr M1 M2) Q (b1, b2) 63 [zR 98, zI l1, zI l2, zI l3] [] 137 h) : Wp mX12_isWordAt (kR fr M1 M2) Q (b1, b2) 39 [zR 98, zI l1, zI l2, zI l3] [] 137 h := by
  refine s_aload_n (x := 98) dX12_isWordAt_39 rfl ?_
  refine s_getFd (c := 98) (d := 120) dX12_isWordAt_40 lX12_83 e98 (Or.inl rfl) (by decide) (by decide) ?_
  refine s_iload_n (x := l2) dX12_isWordAt_43 rfl ?_
  refine s_iload_n (x := l3) dX12_isWordAt_44 rfl ?_
  refine s_iadd dX12_isWordAt_45 ?_
  refine s_iald (c := 120) (i := l2 + l3) dX12_isWordAt_46 e120 r1.1 r1.2 ?_
  refine s_aload_n (x := 98) dX12_isWordAt_47 rfl ?_
  refine s_getFd (c := 98) (d := 101) dX12_isWordAt_48 lX12_20 e98 (Or.inl rfl) (by decide) (by decide) ?_
  refine s_bipush dX12_isWordAt_51 (by decide) ?_
  refine s_iload_n (x := l1) dX12_isWordAt_53 rfl ?_
  refine s_imul dX12_isWordAt_54 ?_
  refine s_iconst dX12_isWordAt_55 ?_
  refine s_iadd dX12_isWordAt_56 ?_
  refine s_iload_n (x := l3) dX12_isWordAt_57 rfl ?_
  refine s_iadd dX12_isWordAt_58 ?_
  refine s_iald (c := 101) (i := ((6 * l1) + 2) + l3) dX12_isWordAt_59 e101 r2.1 r2.2 ?_
  exact s_icmp_eq (tgt := 65) dX12_isWordAt_60 (by decide) r3 r4 kt kf
theorem bX12_isWordAt_63 {fr M1 M2 b1 b2 : Nat} {Q : RS → Nat → AH → Prop} {h : AH} {x0 x1 x2 x3 : AV}   (hq : Q (.inl (some (zI 0))) 137 h) : Wp mX12_isWordAt (kR fr M1 M2) Q (b1, b2) 63 [x0, x1, x2, x3] [] 137 h := by
  refine s_fgt (fgt_n _ (fgt_n _ (fgt_n _ (fgt_n _ fgt_0)))) ?_
  refine s_iconst dX12_isWordAt_63 ?_
  exact s_ireturn dX12_isWordAt_64 ⟨.boolean, rfl, by decide⟩ hq (fun z => by cases z)
theorem bX12_isWordAt_65 {fr M1 M2 b1 b2 : Nat} {Q : RS → Nat → AH → Prop} {h : AH} {l1 l2 l3 : Int}   (kk : Wp mX12_isWordAt (kR fr M1 M2) Q (b1, b2) 24 [zR 98, zI l1, zI l2, zI (l3 + 1)] [] 137 h) : Wp mX12_isWordAt (kR fr M1 M2) Q (b1, b2) 65 [zR 98, zI l1, zI l2, zI l3] [] 137 h := by
  refine s_iinc (x := l3) dX12_isWordAt_65 rfl rfl (by decide) ?_
  exact s_goto (tgt := 24) dX12_isWordAt_68 (by decide) kk
theorem bX12_isWordAt_71 {fr M1 M2 b1 b2 : Nat} {Q : RS → Nat → AH → Prop} {h : AH} {x0 x1 x2 x3 : AV}   (hq : Q (.inl (some (zI 1))) 137 h) : Wp mX12_isWordAt (kR fr M1 M2) Q (b1, b2) 71 [x0, x1, x2, x3] [] 137 h := by
  refine s_fgt (fgt_n _ (fgt_n _ (fgt_n _ (fgt_n _ fgt_0)))) ?_
  refine s_iconst dX12_isWordAt_71 ?_
  exact s_ireturn dX12_isWordAt_72 ⟨.boolean, rfl, by decide⟩ hq (fun z => by cases z)
theorem dX12_isLine_0 : decode mX12_isLine.cd 0 = .ok (.aload_n 0, 1) := by decide +kernel
theorem dX12_isLine_1 : decode mX12_isLine.cd 1 = .ok (.getfield 368, 3) := by decide +kernel
theorem dX12_isLine_4 : decode mX12_isLine.cd 4 = .ok (.bipush 12, 2) := by decide +kernel
theorem dX12_isLine_6 : decode mX12_isLine.cd 6 = .ok (.if_icmp .le 5, 3) := by decide +kernel
theorem dX12_isLine_9 : decode mX12_isLine.cd 9 = .ok (.iconst 0, 1) := by decide +kernel
theorem dX12_isLine_10 : decode mX12_isLine.cd 10 = .ok (.ireturn, 1) := by decide +kernel
theorem dX12_isLine_11 : decode mX12_isLine.cd 11 = .ok (.iconst 0, 1) := by decide +kernel
theorem dX12_isLine_12 : decode mX12_isLine.cd 12 = .ok (.istore_n 1, 1) := by decide +kernel
theorem dX12_isLine_13 : decode mX12_isLine.cd 13 = .ok (.iload_n 1, 1) := by decide +kernel
theorem dX12_isLine_14 : decode mX12_isLine.cd 14 = .ok (.aload_n 0, 1) := by decide +kernel
theorem dX12_isLine_15 : decode mX12_isLine.cd 15 = .ok (.getfield 276, 3) := by decide +kernel
theorem dX12_isLine_18 : decode mX12_isLine.cd 18 = .ok (.if_icmp .ge 151, 3) := by decide +kernel
theorem dX12_isLine_21 : decode mX12_isLine.cd 21 = .ok (.iconst 1, 1) := by decide +kernel
theorem dX12_isLine_22 : decode mX12_isLine.cd 22 = .ok (.istore_n 2, 1) := by decide +kernel
theorem dX12_isLine_23 : decode mX12_isLine.cd 23 = .ok (.iconst 0, 1) := by decide +kernel
theorem dX12_isLine_24 : decode mX12_isLine.cd 24 = .ok (.istore_n 3, 1) := by decide +kernel
theorem dX12_isLine_25 : decode mX12_isLine.cd 25 = .ok (.iload_n 3, 1) := by decide +kernel
theorem dX12_isLine_26 : decode mX12_isLine.cd 26 = .ok (.aload_n 0, 1) := by decide +kernel
theorem dX12_isLine_27 : decode mX12_isLine.cd 27 = .ok (.getfield 23, 3) := by decide +kernel
theorem dX12_isLine_30 : decode mX12_isLine.cd 30 = .ok (.iconst 4, 1) := by decide +kernel
theorem dX12_isLine_31 : decode mX12_isLine.cd 31 = .ok (.iload_n 1, 1) := by decide +kernel
theorem dX12_isLine_32 : decode mX12_isLine.cd 32 = .ok (.imul, 1) := by decide +kernel
theorem dX12_isLine_33 : decode mX12_isLine.cd 33 = .ok (.iaload, 1) := by decide +kernel
theorem dX12_isLine_34 : decode mX12_isLine.cd 34 = .ok (.if_icmp .ge 115, 3) := by decide +kernel
theorem dX12_isLine_37 : decode mX12_isLine.cd 37 = .ok (.iconst 0, 1) := by decide +kernel
theorem dX12_isLine_38 : decode mX12_isLine.cd 38 = .ok (.istore 4, 2) := by decide +kernel
theorem dX12_isLine_40 : decode mX12_isLine.cd 40 = .ok (.iconst 0, 1) := by decide +kernel
theorem dX12_isLine_41 : decode mX12_isLine.cd 41 = .ok (.istore 5, 2) := by decide +kernel
theorem dX12_isLine_43 : decode mX12_isLine.cd 43 = .ok (.iload 5, 2) := by decide +kernel
theorem dX12_isLine_45 : decode mX12_isLine.cd 45 = .ok (.aload_n 0, 1) := by decide +kernel
theorem dX12_isLine_46 : decode mX12_isLine.cd 46 = .ok (.getfield 368, 3) := by decide +kernel
theorem dX12_isLine_49 : decode mX12_isLine.cd 49 = .ok (.if_icmp .gt 91, 3) := by decide +kernel
theorem dX12_isLine_52 : decode mX12_isLine.cd 52 = .ok (.iload_n 2, 1) := by decide +kernel
theorem dX12_isLine_53 : decode mX12_isLine.cd 53 = .ok (.iload 5, 2) := by decide +kernel
theorem dX12_isLine_55 : decode mX12_isLine.cd 55 = .ok (.ishr, 1) := by decide +kernel
theorem dX12_isLine_56 : decode mX12_isLine.cd 56 = .ok (.iconst 1, 1) := by decide +kernel
theorem dX12_isLine_57 : decode mX12_isLine.cd 57 = .ok (.iand, 1) := by decide +kernel
theorem dX12_isLine_58 : decode mX12_isLine.cd 58 = .ok (.ifCond .ne 6, 3) := by decide +kernel
theorem dX12_isLine_61 : decode mX12_isLine.cd 61 = .ok (.goto 73, 3) := by decide +kernel
theorem dX12_isLine_64 : decode mX12_isLine.cd 64 = .ok (.iconst 0, 1) := by decide +kernel
theorem dX12_isLine_65 : decode mX12_isLine.cd 65 = .ok (.istore 6, 2) := by decide +kernel
theorem dX12_isLine_67 : decode mX12_isLine.cd 67 = .ok (.iload 6, 2) := by decide +kernel
theorem dX12_isLine_69 : decode mX12_isLine.cd 69 = .ok (.aload_n 0, 1) := by decide +kernel
theorem dX12_isLine_70 : decode mX12_isLine.cd 70 = .ok (.getfield 273, 3) := by decide +kernel
theorem dX12_isLine_73 : decode mX12_isLine.cd 73 = .ok (.if_icmp .ge 61, 3) := by decide +kernel
theorem dX12_isLine_76 : decode mX12_isLine.cd 76 = .ok (.aload_n 0, 1) := by decide +kernel
theorem dX12_isLine_77 : decode mX12_isLine.cd 77 = .ok (.getfield 20, 3) := by decide +kernel
theorem dX12_isLine_80 : decode mX12_isLine.cd 80 = .ok (.bipush 6, 2) := by decide +kernel
theorem dX12_isLine_82 : decode mX12_isLine.cd 82 = .ok (.iload 6, 2) := by decide +kernel
theorem dX12_isLine_84 : decode mX12_isLine.cd 84 = .ok (.imul, 1) := by decide +kernel
theorem dX12_isLine_85 : decode mX12_isLine.cd 85 = .ok (.iaload, 1) := by decide +kernel
theorem dX12_isLine_86 : decode mX12_isLine.cd 86 = .ok (.aload_n 0, 1) := by decide +kernel
theorem dX12_isLine_87 : decode mX12_isLine.cd 87 = .ok (.iload_n 1, 1) := by decide +kernel
theorem dX12_isLine_88 : decode mX12_isLine.cd 88 = .ok (.iload_n 3, 1) := by decide +kernel
theorem dX12_isLine_89 : decode mX12_isLine.cd 89 = .ok (.invokevirtual 344, 3) := by decide +kernel
theorem dX12_isLine_92 : decode mX12_isLine.cd 92 = .ok (.if_icmp .ne 36, 3) := by decide +kernel
theorem dX12_isLine_95 : decode mX12_isLine.cd 95 = .ok (.aload_n 0, 1) := by decide +kernel
theorem dX12_isLine_96 : decode mX12_isLine.cd 96 = .ok (.iload 6, 2) := by decide +kernel
theorem dX12_isLine_98 : decode mX12_isLine.cd 98 = .ok (.iload 5, 2) := by decide +kernel
theorem dX12_isLine_100 : decode mX12_isLine.cd 100 = .ok (.invokevirtual 371, 3) := by decide +kernel
theorem dX12_isLine_103 : decode mX12_isLine.cd 103 = .ok (.ifCond .eq 25, 3) := by decide +kernel
theorem dX12_isLine_106 : decode mX12_isLine.cd 106 = .ok (.iload 4, 2) := by decide +kernel
theorem dX12_isLine_108 : decode mX12_isLine.cd 108 = .ok (.iconst 1, 1) := by decide +kernel
theorem dX12_isLine_109 : decode mX12_isLine.cd 109 = .ok (.iload 5, 2) := by decide +kernel
theorem dX12_isLine_111 : decode mX12_isLine.cd 111 = .ok (.aload_n 0, 1) := by decide +kernel
theorem dX12_isLine_112 : decode mX12_isLine.cd 112 = .ok (.getfield 20, 3) := by decide +kernel
theorem dX12_isLine_115 : decode mX12_isLine.cd 115 = .ok (.bipush 6, 2) := by decide +kernel
theorem dX12_isLine_117 : decode mX12_isLine.cd 117 = .ok (.iload 6, 2) := by decide +kernel
theorem dX12_isLine_119 : decode mX12_isLine.cd 119 = .ok (.imul, 1) := by decide +kernel
theorem dX12_isLine_120 : decode mX12_isLine.cd 120 = .ok (.iconst 1, 1) := by decide +kernel
theorem dX12_isLine_121 : decode mX12_isLine.cd 121 = .ok (.iadd, 1) := by decide +kernel
theorem dX12_isLine_122 : decode mX12_isLine.cd 122 = .ok (.iaload, 1) := by decide +kernel
theorem dX12_isLine_123 : decode mX12_isLine.cd 123 = .ok (.iadd, 1) := by decide +kernel
theorem dX12_isLine_124 : decode mX12_isLine.cd 124 = .ok (.ishl, 1) := by decide +kernel
theorem dX12_isLine_125 : decode mX12_isLine.cd 125 = .ok (.ior, 1) := by decide +kernel
theorem dX12_isLine_126 : decode mX12_isLine.cd 126 = .ok (.istore 4, 2) := by decide +kernel
theorem dX12_isLine_128 : decode mX12_isLine.cd 128 = .ok (.iinc 6 1, 3) := by decide +kernel
theorem dX12_isLine_131 : decode mX12_isLine.cd 131 = .ok (.goto (-64), 3) := by decide +kernel
theorem dX12_isLine_134 : decode mX12_isLine.cd 134 = .ok (.iinc 5 1, 3) := by decide +kernel
theorem dX12_isLine_137 : decode mX12_isLine.cd 137 = .ok (.goto (-94), 3) := by decide +kernel
theorem dX12_isLine_140 : decode mX12_isLine.cd 140 = .ok (.iload 4, 2) := by decide +kernel
theorem dX12_isLine_142 : decode mX12_isLine.cd 142 = .ok (.istore_n 2, 1) := by decide +kernel
theorem dX12_isLine_143 : decode mX12_isLine.cd 143 = .ok (.iinc 3 1, 3) := by decide +kernel
theorem dX12_isLine_146 : decode mX12_isLine.cd 146 = .ok (.goto (-121), 3) := by decide +kernel
theorem dX12_isLine_149 : decode mX12_isLine.cd 149 = .ok (.iload_n 2, 1) := by decide +kernel
theorem dX12_isLine_150 : decode mX12_isLine.cd 150 = .ok (.aload_n 0, 1) := by decide +kernel
theorem dX12_isLine_151 : decode mX12_isLine.cd 151 = .ok (.getfield 368, 3) := by decide +kernel
theorem dX12_isLine_154 : decode mX12_isLine.cd 154 = .ok (.ishr, 1) := by decide +kernel
theorem dX12_isLine_155 : decode mX12_isLine.cd 155 = .ok (.iconst 1, 1) := by decide +kernel
theorem dX12_isLine_156 : decode mX12_isLine.cd 156 = .ok (.iand, 1) := by decide +kernel
theorem dX12_isLine_157 : decode mX12_isLine.cd 157 = .ok (.iconst 1, 1) := by decide +kernel
theorem dX12_isLine_158 : decode mX12_isLine.cd 158 = .ok (.if_icmp .ne 5, 3) := by decide +kernel
theorem dX12_isLine_161 : decode mX12_isLine.cd 161 = .ok (.iconst 1, 1) := by decide +kernel
theorem dX12_isLine_162 : decode mX12_isLine.cd 162 = .ok (.ireturn, 1) := by decide +kernel
theorem dX12_isLine_163 : decode mX12_isLine.cd 163 = .ok (.iinc 1 1, 3) := by decide +kernel
theorem dX12_isLine_166 : decode mX12_isLine.cd 166 = .ok (.goto (-153), 3) := by decide +kernel
theorem dX12_isLine_169 : decode mX12_isLine.cd 169 = .ok (.iconst 0, 1) := by decide +kernel
theorem dX12_isLine_170 : decode mX12_isLine.cd 170 = .ok (.ireturn, 1) := by decide +kernel
theorem bX12_isLine_0 {fr M1 M2 b1 b2 : Nat} {Q : RS → Nat → AH → Prop} {h : AH} {x1 x2 x3 x4 x5 x6 : AV}  (r1 : -2147483648 ≤ h 98 58 ∧ h 98 58 < 2147483648 := by omega) (kt : h 98 58 ≤ 12 → Wp mX12_isLine (kR fr M1 M2) Q (b1, b2) 11 [zR 98, none, none, none, none, none, none] [] 137 h) (kf : 12 < h 98 58 → Wp mX12_isLine (kR fr M1 M2) Q (b1, b2) 9 [zR 98, none, none, none, none, none, none] [] 137 h) : Wp mX12_isLine (kR fr M1 M2) Q (b1, b2) 0 [zR 98, x1, x2, x3, x4, x5, x6] [] 137 h := by
  refine s_fgt (fgt_c (fgt_n _ (fgt_n _ (fgt_n _ (fgt_n _ (fgt_n _ (fgt_n _ fgt_0))))))) ?_
  refine s_aload_n (x := 98) dX12_isLine_0 rfl ?_
  refine s_get (c := 98) dX12_isLine_1 lX12_368 e98 (by decide) ?_
  refine s_bipush dX12_isLine_4 (by decide) ?_
  exact s_icmp_le (tgt := 11) dX12_isLine_6 (by decide) r1 ⟨by decide, by decide⟩ kt kf
theorem bX12_isLine_9 {fr M1 M2 b1 b2 : Nat} {Q : RS → Nat → AH → Prop} {h : AH} {x0 x1 x2 x3 x4 x5 x6 : AV}   (hq : Q (.inl (some (zI 0))) 137 h) : Wp mX12_isLine (kR fr M1 M2) Q (b1, b2) 9 [x0, x1, x2, x3, x4, x5, x6] [] 137 h := by
  refine s_fgt (fgt_n _ (fgt_n _ (fgt_n _ (fgt_n _ (fgt_n _ (fgt_n _ (fgt_n _ fgt_0))))))) ?_
  refine s_iconst dX12_isLine_9 ?_
  exact s_ireturn dX12_isLine_10 ⟨.boolean, rfl, by decide⟩ hq (fun z => by cases z)
theorem bX12_isLine_11 {fr M1 M2 b1 b2 : Nat} {Q : RS → Nat → AH → Prop} {h : AH} {x1 x2 x3 x4 x5 x6 : AV}   (kk : Wp mX12_isLine (kR fr M1 M2) Q (b1, b2) 13 [zR 98, zI 0, none, none, none, none, none] [] 137 h) : Wp mX12_isLine (kR fr M1 M2) Q (b1, b2) 11 [zR 98, x1, x2, x3, x4, x5, x6] [] 137 h := by
  refine s_fgt (fgt_c (fgt_n _ (fgt_n _ (fgt_n _ (fgt_n _ (fgt_n _ (fgt_n _ fgt_0))))))) ?_
  refine s_iconst dX12_isLine_11 ?_
  refine s_istore_n dX12_isLine_12 rfl (by decide) ?_
  exact kk
theorem bX12_isLine_13 {fr M1 M2 b1 b2 : Nat} {Q : RS → Nat → AH → Prop} {h : AH} {l1 : Int} {x2 x3 x4 x5 x6 : AV}  (r1 : -2147483648 ≤ l1 ∧ l1 < 2147483648 := by omega) (r2 : -2147483648 ≤ h 98 4 ∧ h 98 4 < 2147483648 := by omega) (kt : h 98 4 ≤ l1 → Wp mX12_isLine (kR fr M1 M2) Q (b1, b2) 169 [zR 98, zI l1, none, none, none, none, none] [] 137 h) (kf : l1 < h 98 4 → Wp mX12_isLine (kR fr M1 M2) Q (b1, b2) 21 [zR 98, zI l1, none, none, none, none, none] [] 137 h) : Wp mX12_isLine (kR fr M1 M2) Q (b1, b2) 13 [zR 98, zI l1, x2, x3, x4, x5, x6] [] 137 h := by
  refine s_fgt (fgt_c (fgt_c (fgt_n _ (fgt_n _ (fgt_n _ (fgt_n _ (fgt_n _ fgt_0))))))) ?_
  refine s_iload_n (x := l1) dX12_isLine_13 rfl ?_
  refine s_aload_n (x := 98) dX12_isLine_14 rfl ?_
  refine s_get (c := 98) dX12_isLine_15 lX12_276 e98 (by decide) ?_
  exact s_icmp_ge (tgt := 169) dX12_isLine_18 (by decide) r1 r2 kt kf
theorem bX12_isLine_21 {fr M1 M2 b1 b2 : Nat} {Q : RS → Nat → AH → Prop} {h : AH} {l1 : Int} {x2 x3 x4 x5 x6 : AV}   (kk : Wp mX12_isLine (kR fr M1 M2) Q (b1, b2) 25 [zR 98, zI l1, zI 1, zI 0, none, none, none] [] 137 h) : Wp mX12_isLine (kR fr M1 M2) Q (b1, b2) 21 [zR 98, zI l1, x2, x3, x4, x5, x6] [] 137 h := by
  refine s_fgt (fgt_c (fgt_c (fgt_n _ (fgt_n _ (fgt_n _ (fgt_n _ (fgt_n _ fgt_0))))))) ?_
  refine s_iconst dX12_isLine_21 ?_
  refine s_istore_n dX12_isLine_22 rfl (by decide) ?_
  refine s_iconst dX12_isLine_23 ?_
  refine s_istore_n dX12_isLine_24 rfl (by decide) ?_
  exact kk
theorem bX12_isLine_25 {fr M1 M2 b1 b2 : Nat} {Q : RS → Nat → AH → Prop} {h : AH} {l1 l2 l3 : Int} {x4 x5 x6 : AV}  (r1 : 0 ≤ 4 * l1 ∧ 4 * l1 < 24 := by omega) (r2 : -2147483648 ≤ l3 ∧ l3 < 2147483648 := by omega) (r3 : -2147483648 ≤ h 102 (4 * l1) ∧ h 102 (4 * l1) < 2147483648 := by omega) (kt : h 102 (4 * l1) ≤ l3 → Wp mX12_isLine (kR fr M1 M2) Q (b1, b2) 149 [zR 98, zI l1, zI l2, zI l3, none, none, none] [] 137 h) (kf : l3 < h 102 (4 * l1) → Wp mX12_isLine (kR fr M1 M2) Q (b1, b2) 37 [zR 98, zI l1, zI l2, zI l3, none, none, none] [] 137 h) : Wp mX12_isLine (kR fr M1 M2) Q (b1, b2) 25 [zR 98, zI l1, zI l2, zI l3, x4, x5, x6] [] 137 h := by
  refine s_fgt (fgt_c (fgt_c (fgt_c (fgt_c (fgt_n _ (fgt_n _ (fgt_n _ fgt_0))))))) ?_
  refine s_iload_n (x := l3) dX12_isLine_25 rfl ?_
  refine s_aload_n (x := 98) dX12_isLine_26 rfl ?_
  refine s_getFd (c := 98) (d := 102) dX12_isLine_27 lX12_23 e98 (Or.inl rfl) (by decide) (by decide) ?_
  refine s_iconst dX12_isLine_30 ?_
  refine s_iload_n (x := l1) dX12_isLine_31 rfl ?_
  refine s_imul dX12_isLine_32 ?_
  refine s_iald (c := 102) (i := 4 * l1) dX12_isLine_33 e102 r1.1 r1.2 ?_
  exact s_icmp_ge (tgt := 149) dX12_isLine_34 (by decide) r2 r3 kt kf
theorem bX12_isLine_37 {fr M1 M2 b1 b2 : Nat} {Q : RS → Nat → AH → Prop} {h : AH} {l1 l2 l3 : Int} {x4 x5 x6 : AV}   (kk : Wp mX12_isLine (kR fr M1 M2) Q (b1, b2) 43 [zR 98, zI l1, zI l2, zI l3, zI 0, zI 0, none] [] 137 h) : Wp mX12_isLine (kR fr M1 M2) Q (b1, b2) 37 [zR 98, zI l1, zI l2, zI l3, x4, x5, x6] [] 137 h := by
  refine s_fgt (fgt_c (fgt_c (fgt_c (fgt_c (fgt_n _ (fgt_n _ (fgt_n _ fgt_0))))))) ?_
  refine s_iconst dX12_isLine_37 ?_
  refine s_istore dX12_isLine_38 rfl (by decide) ?_
  refine s_iconst dX12_isLine_40 ?_
  refine s_istore dX12_isLine_41 rfl (by decide) ?_
  exact kk
theorem bX12_isLine_43 {fr M1 M2 b1 b2 : Nat} {Q : RS → Nat → AH → Prop} {h : AH} {l1 l2 l3 l4 l5 : Int} {x6 : AV}  (r1 : -2147483648 ≤ l5 ∧ l5 < 2147483648 := by omega) (r2 : -2147483648 ≤ h 98 58 ∧ h 98 58 < 2147483648 := by omega) (kt : h 98 58 < l5 → Wp mX12_isLine (kR fr M1 M2) Q (b1, b2) 140 [zR 98, zI l1, zI l2, zI l3, zI l4, zI l5, none] [] 137 h) (kf : l5 ≤ h 98 58 → Wp mX12_isLine (kR fr M1 M2) Q (b1, b2) 52 [zR 98, zI l1, zI l2, zI l3, zI l4, zI l5, none] [] 137 h) : Wp mX12_isLine (kR fr M1 M2) Q (b1, b2) 43 [zR 98, zI l1, zI l2, zI l3, zI l4, zI l5, x6] [] 137 h := by
  refine s_fgt (fgt_c (fgt_c (fgt_c (fgt_c (fgt_c (fgt_c (fgt_n _ fgt_0))))))) ?_
  refine s_iload (x := l5) dX12_isLine_43 rfl ?_
  refine s_aload_n (x := 98) dX12_isLine_45 rfl ?_
  refine s_get (c := 98) dX12_isLine_46 lX12_368 e98 (by decide) ?_
  exact s_icmp_gt (tgt := 140) dX12_isLine_49 (by decide) r1 r2 kt kf
theorem bX12_isLine_52 {fr M1 M2 b1 b2 : Nat} {Q : RS → Nat → AH → Prop} {h : AH} {l1 l2 l3 l4 l5 : Int} {x6 : AV}  (r1 : 0 ≤ l5 ∧ l5 < 32 := by omega) (r2 : -2147483648 ≤ l2 ∧ l2 < 2147483648 := by omega) (r3 : -2147483648 ≤ bAnd (l2 / 2 ^ l5.toNat) 1 ∧ bAnd (l2 / 2 ^ l5.toNat) 1 < 2147483648 := by omega) (kt : ¬ bAnd (l2 / 2 ^ l5.toNat) 1 = 0 → Wp mX12_isLine (kR fr M1 M2) Q (b1, b2) 64 [zR 98, zI l1, zI l2, zI l3, zI l4, zI l5, none] [] 137 h) (kf : bAnd (l2 / 2 ^ l5.toNat) 1 = 0 → Wp mX12_isLine (kR fr M1 M2) Q (b1, b2) 61 [zR 98, zI l1, zI l2, zI l3, zI l4, zI l5, none] [] 137 h) : Wp mX12_isLine (kR fr M1 M2) Q (b1, b2) 52 [zR 98, zI l1, zI l2, zI l3, zI l4, zI l5, x6] [] 137 h := by
  refine s_fgt (fgt_c (fgt_c (fgt_c (fgt_c (fgt_c (fgt_c (fgt_n _ fgt_0))))))) ?_
  refine s_iload_n (x := l2) dX12_isLine_52 rfl ?_
  refine s_iload (x := l5) dX12_isLine_53 rfl ?_
  refine s_ishrN dX12_isLine_55 r2 r1.1 r1.2 ?_
  refine s_iconst dX12_isLine_56 ?_
  refine s_iand dX12_isLine_57 ?_
  exact s_if_ne (tgt := 64) dX12_isLine_58 (by decide) r3 kt kf
theorem bX12_isLine_61 {fr M1 M2 b1 b2 : Nat} {Q : RS → Nat → AH → Prop} {h : AH} {l1 l2 l3 l4 l5 : Int} {x6 : AV}   (kk : Wp mX12_isLine (kR fr M1 M2) Q (b1, b2) 134 [zR 98, zI l1, zI l2, zI l3, zI l4, zI l5, none] [] 137 h) : Wp mX12_isLine (kR fr M1 M2) Q (b1, b2) 61 [zR 98, zI l1, zI l2, zI l3, zI l4, zI l5, x6] [] 137 h := by
  refine s_fgt (fgt_c (fgt_c (fgt_c (fgt_c (fgt_c (fgt_c (fgt_n _ fgt_0))))))) ?_
  exact s_goto (tgt := 134) dX12_isLine_61 (by decide) kk
theorem bX12_isLine_64 {fr M1 M2 b1 b2 : Nat} {Q : RS → Nat → AH → Prop} {h : AH} {l1 l2 l3 l4 l5 : Int} {x6 : AV}   (kk : Wp mX12_isLine (kR fr M1 M2) Q (b1, b2) 67 [zR 98, zI l1, zI l2, zI l3, zI l4, zI l5, zI 0] [] 137 h) : Wp mX12_isLine (kR fr M1 M2) Q (b1, b2) 64 [zR 98, zI l1, zI l2, zI l3, zI l4, zI l5, x6] [] 137 h := by
  refine s_fgt (fgt_c (fgt_c (fgt_c (fgt_c (fgt_c (fgt_c (fgt_n _ fgt_0))))))) ?_
  refine s_iconst dX12_isLine_64 ?_
  refine s_istore dX12_isLine_65 rfl (by decide) ?_
  exact kk
theorem bX12_isLine_67 {fr M1 M2 b1 b2 : Nat} {Q : RS → Nat → AH → Prop} {h : AH} {l1 l2 l3 l4 l5 l6 : Int}  (r1 : -2147483648 ≤ l6 ∧ l6 < 2147483648 := by omega) (r2 : -2147483648 ≤ h 98 3 ∧ h 98 3 < 2147483648 := by omega) (kt : h 98 3 ≤ l6 → Wp mX12_isLine (kR fr M1 M2) Q (b1, b2) 134 [zR 98, zI l1, zI l2, zI l3, zI l4, zI l5, zI l6] [] 137 h) (kf : l6 < h 98 3 → Wp mX12_isLine (kR fr M1 M2) Q (b1, b2) 76 [zR 98, zI l1, zI l2, zI l3, zI l4, zI l5, zI l6] [] 137 h) : Wp mX12_isLine (kR fr M1 M2) Q (b1, b2) 67 [zR 98, zI l1, zI l2, zI l3, zI l4, zI l5, zI l6] [] 137 h := by
  refine s_iload (x := l6) dX12_isLine_67 rfl ?_
  refine s_aload_n (x := 98) dX12_isLine_69 rfl ?_
  refine s_get (c := 98) dX12_isLine_70 lX12_273 e98 (by decide) ?_
  exact s_icmp_ge (tgt := 134) dX12_isLine_73 (by decide) r1 r2 kt kf
theorem bX12_isLine_76 {fr M1 M2 b1 b2 : Nat} {Q : RS → Nat → AH → Prop} {h : AH} {l1 l2 l3 l4 l5 l6 : Int} {R : Int → AH → Prop}  (r1 : 0 ≤ 6 * l6 ∧ 6 * l6 < 48 := by omega) (hS : Sp mX12_kindOf true (fr - 1) 0 0 [zR 98, zI l1, zI l3] 137 h (rI R)) (hf : 1 ≤ fr := by omega) (kk : ∀ (x : Int) (h' : AH), R x h' → Wp mX12_isLine (kR fr M1 M2) Q (b1, b2) 92 [zR 98, zI l1, zI l2, zI l3, zI l4, zI l5, zI l6] [zI x, zI (h 101 (6 * l6))] 137 h') : Wp mX12_isLine (kR fr M1 M2) Q (b1, b2) 76 [zR 98, zI l1, zI l2, zI l3, zI l4, zI l5, zI l6] [] 137 h := by
  refine s_aload_n (x := 98) dX12_isLine_76 rfl ?_
  refine s_getFd (c := 98) (d := 101) dX12_isLine_77 lX12_20 e98 (Or.inl rfl) (by decide) (by decide) ?_
  refine s_bipush dX12_isLine_80 (by decide) ?_
  refine s_iload (x := l6) dX12_isLine_82 rfl ?_
  refine s_imul dX12_isLine_84 ?_
  refine s_iald (c := 101) (i := 6 * l6) dX12_isLine_85 e101 r1.1 r1.2 ?_
  refine s_aload_n (x := 98) dX12_isLine_86 rfl ?_
  refine s_iload_n (x := l1) dX12_isLine_87 rfl ?_
  refine s_iload_n (x := l3) dX12_isLine_88 rfl ?_
  exact s_callV (as := [zI l1, zI l3]) (st := [zI (h 101 (6 * l6))]) (o := 98) dX12_isLine_89 kX12_344 rfl ⟨12, 87, TX12, e98, rfl, by decide⟩ rfl rfl (Nat.le_of_ble_eq_true rfl) hS (show fr - 1 + 1 ≤ fr by omega) (Nat.zero_le _) (Nat.zero_le _) (fun v n' h' hP _ => by obtain ⟨x, e, rfl, hR⟩ := hP; cases e; exact kk x h' hR) (fun E n' h' _ z => (rI_nt _ _ _ z).elim)
theorem bX12_isLine_92 {fr M1 M2 b1 b2 : Nat} {Q : RS → Nat → AH → Prop} {h : AH} {l1 l2 l3 l4 l5 l6 s1 s0 : Int}  (r1 : -2147483648 ≤ s1 ∧ s1 < 2147483648 := by omega) (r2 : -2147483648 ≤ s0 ∧ s0 < 2147483648 := by omega) (kt : ¬ s1 = s0 → Wp mX12_isLine (kR fr M1 M2) Q (b1, b2) 128 [zR 98, zI l1, zI l2, zI l3, zI l4, zI l5, zI l6] [] 137 h) (kf : s1 = s0 → Wp mX12_isLine (kR fr M1 M2) Q (b1, b2) 95 [zR 98, zI l1, zI l2, zI l3, zI l4, zI l5, zI l6] [] 137 h) : Wp mX12_isLine (kR fr M1 M2) Q (b1, b2) 92 [zR 98, zI l1, zI l2, zI l3, zI l4, zI l5, zI l6] [zI s0, zI s1] 137 h := by
  exact s_icmp_ne (tgt := 128) dX12_isLine_92 (by decide) r1 r2 kt kf
theorem bX12_isLine_95 {fr M1 M2 b1 b2 : Nat} {Q : RS → Nat → AH → Prop} {h : AH} {l1 l2 l3 l4 l5 l6 : Int} {R : Int → AH → Prop}   (hS : Sp mX12_isWordAt true (fr - 1) 0 0 [zR 98, zI l6, zI l5] 137 h (rI R)) (hf : 1 ≤ fr := by omega) (kk : ∀ (x : Int) (h' : AH), R x h' → Wp mX12_isLine (kR fr M1 M2) Q (b1, b2) 103 [zR 98, zI l1, zI l2, zI l3, zI l4, zI l5, zI l6] [zI x] 137 h') : Wp mX12_isLine (kR fr M1 M2) Q (b1, b2) 95 [zR 98, zI l1, zI l2, zI l3, zI l4, zI l5, zI l6] [] 137 h := by
  refine s_aload_n (x := 98) dX12_isLine_95 rfl ?_
  refine s_iload (x := l6) dX12_isLine_96 rfl ?_
  refine s_iload (x := l5) dX12_isLine_98 rfl ?_
  exact s_callV (as := [zI l6, zI l5]) (st := []) (o := 98) dX12_isLine_100 kX12_371 rfl ⟨12, 87, TX12, e98, rfl, by decide⟩ rfl rfl (Nat.le_of_ble_eq_true rfl) hS (show fr - 1 + 1 ≤ fr by omega) (Nat.zero_le _) (Nat.zero_le _) (fun v n' h' hP _ => by obtain ⟨x, e, rfl, hR⟩ := hP; cases e; exact kk x h' hR) (fun E n' h' _ z => (rI_nt _ _ _ z).elim)
theorem bX12_isLine_103 {fr M1 M2 b1 b2 : Nat} {Q : RS → Nat → AH → Prop} {h : AH} {l1 l2 l3 l4 l5 l6 s0 : Int}  (r1 : -2147483648 ≤ s0 ∧ s0 < 2147483648 := by omega) (kt : s0 = 0 → Wp mX12_isLine (kR fr M1 M2) Q (b1, b2) 128 [zR 98, zI l1, zI l2, zI l3, zI l4, zI l5, zI l6] [] 137 h) (kf : ¬ s0 = 0 → Wp mX12_isLine (kR fr M1 M2) Q (b1, b2) 106 [zR 98, zI l1, zI l2, zI l3, zI l4, zI l5, zI l6] [] 137 h) : Wp mX12_isLine (kR fr M1 M2) Q (b1, b2) 103 [zR 98, zI l1, zI l2, zI l3, zI l4, zI l5, zI l6] [zI s0] 137 h := by
  exact s_if_eq (tgt := 128) dX12_isLine_103 (by decide) r1 kt kf
theorem bX12_isLine_106 {fr M1 M2 b1 b2 : Nat} {Q : RS → Nat → AH → Prop} {h : AH} {l1 l2 l3 l4 l5 l6 : Int}  (r1 : 0 ≤ (6 * l6) + 1 ∧ (6 * l6) + 1 < 48 := by omega) (r2 : 0 ≤ l5 + (h 101 ((6 * l6) + 1)) ∧ l5 + (h 101 ((6 * l6) + 1)) < 32 := by omega) (kk : Wp mX12_isLine (kR fr M1 M2) Q (b1, b2) 128 [zR 98, zI l1, zI l2, zI l3, zI (bOr l4 (1 * 2 ^ (l5 + (h 101 ((6 * l6) + 1))).toNat)), zI l5, zI l6] [] 137 h) : Wp mX12_isLine (kR fr M1 M2) Q (b1, b2) 106 [zR 98, zI l1, zI l2, zI l3, zI l4, zI l5, zI l6] [] 137 h := by
  refine s_iload (x := l4) dX12_isLine_106 rfl ?_
  refine s_iconst dX12_isLine_108 ?_
  refine s_iload (x := l5) dX12_isLine_109 rfl ?_
  refine s_aload_n (x := 98) dX12_isLine_111 rfl ?_
  refine s_getFd (c := 98) (d := 101) dX12_isLine_112 lX12_20 e98 (Or.inl rfl) (by decide) (by decide) ?_
  refine s_bipush dX12_isLine_115 (by decide) ?_
  refine s_iload (x := l6) dX12_isLine_117 rfl ?_
  refine s_imul dX12_isLine_119 ?_
  refine s_iconst dX12_isLine_120 ?_
  refine s_iadd dX12_isLine_121 ?_
  refine s_iald (c := 101) (i := (6 * l6) + 1) dX12_isLine_122 e101 r1.1 r1.2 ?_
  refine s_iadd dX12_isLine_123 ?_
  refine s_ishlN dX12_isLine_124 r2.1 r2.2 ?_
  refine s_ior dX12_isLine_125 ?_
  refine s_istore dX12_isLine_126 rfl (by decide) ?_
  exact kk
theorem bX12_isLine_128 {fr M1 M2 b1 b2 : Nat} {Q : RS → Nat → AH → Prop} {h : AH} {l1 l2 l3 l4 l5 l6 : Int}   (kk : Wp mX12_isLine (kR fr M1 M2) Q (b1, b2) 67 [zR 98, zI l1, zI l2, zI l3, zI l4, zI l5, zI (l6 + 1)] [] 137 h) : Wp mX12_isLine (kR fr M1 M2) Q (b1, b2) 128 [zR 98, zI l1, zI l2, zI l3, zI l4, zI l5, zI l6] [] 137 h := by
  refine s_iinc (x := l6) dX12_isLine_128 rfl rfl (by decide) ?_
  exact s_goto (tgt := 67) dX12_isLine_131 (by decide) kk
theorem bX12_isLine_134 {fr M1 M2 b1 b2 : Nat} {Q : RS → Nat → AH → Prop} {h : AH} {l1 l2 l3 l4 l5 : Int} {x6 : AV}   (kk : Wp mX12_isLine (kR fr M1 M2) Q (b1, b2) 43 [zR 98, zI l1, zI l2, zI l3, zI l4, zI (l5 + 1), none] [] 137 h) : Wp mX12_isLine (kR fr M1 M2) Q (b1, b2) 134 [zR 98, zI l1, zI l2, zI l3, zI l4, zI l5, x6] [] 137 h := by
  refine s_fgt (fgt_c (fgt_c (fgt_c (fgt_c (fgt_c (fgt_c (fgt_n _ fgt_0))))))) ?_
  refine s_iinc (x := l5) dX12_isLine_134 rfl rfl (by decide) ?_
  exact s_goto (tgt := 43) dX12_isLine_137 (by decide) kk
theorem bX12_isLine_140 {fr M1 M2 b1 b2 : Nat} {Q : RS → Nat → AH → Prop} {h : AH} {l1 l3 l4 : Int} {x2 x5 x6 : AV}   (kk : Wp mX12_isLine (kR fr M1 M2) Q (b1, b2) 25 [zR 98, zI l1, zI l4, zI (l3 + 1), zI l4, none, none] [] 137 h) : Wp mX12_isLine (kR fr M1 M2) Q (b1, b2) 140 [zR 98, zI l1, x2, zI l3, zI l4, x5, x6] [] 137 h := by
  refine s_fgt (fgt_c (fgt_c (fgt_n _ (fgt_c (fgt_c (fgt_n _ (fgt_n _ fgt_0))))))) ?_
  refine s_iload (x := l4) dX12_isLine_140 rfl ?_
  refine s_istore_n dX12_isLine_142 rfl (by decide) ?_
  refine s_iinc (x := l3) dX12_isLine_143 rfl rfl (by decide) ?_
  exact s_goto (tgt := 25) dX12_isLine_146 (by decide) kk
theorem bX12_isLine_149 {fr M1 M2 b1 b2 : Nat} {Q : RS → Nat → AH → Prop} {h : AH} {l1 l2 : Int} {x3 x4 x5 x6 : AV}  (r1 : 0 ≤ h 98 58 ∧ h 98 58 < 32 := by omega) (r2 : -2147483648 ≤ l2 ∧ l2 < 2147483648 := by omega) (r3 : -2147483648 ≤ bAnd (l2 / 2 ^ (h 98 58).toNat) 1 ∧ bAnd (l2 / 2 ^ (h 98 58).toNat) 1 < 2147483648 := by omega) (kt : ¬ bAnd (l2 / 2 ^ (h 98 58).toNat) 1 = 1 → Wp mX12_isLine (kR fr M1 M2) Q (b1, b2) 163 [zR 98, zI l1, zI l2, none, none, none, none] [] 137 h) (kf : bAnd (l2 / 2 ^ (h 98 58).toNat) 1 = 1 → Wp mX12_isLine (kR fr M1 M2) Q (b1, b2) 161 [zR 98, zI l1, zI l2, none, none, none, none] [] 137 h) : Wp mX12_isLine (kR fr M1 M2) Q (b1, b2) 149 [zR 98, zI l1, zI l2, x3, x4, x5, x6] [] 137 h := by
  refine s_fgt (fgt_c (fgt_c (fgt_c (fgt_n _ (fgt_n _ (fgt_n _ (fgt_n _ fgt_0))))))) ?_
  refine s_iload_n (x := l2) dX12_isLine_149 rfl ?_
  refine s_aload_n (x := 98) dX12_isLine_150 rfl ?_
  refine s_get (c := 98) dX12_isLine_151 lX12_368 e98 (by decide) ?_
  refine s_ishrN dX12_isLine_154 r2 r1.1 r1.2 ?_
  refine s_iconst dX12_isLine_155 ?_
  refine s_iand dX12_isLine_156 ?_
  refine s_iconst dX12_isLine_157 ?_
  exact s_icmp_ne (tgt := 163) dX12_isLine_158 (by decide) r3 ⟨by decide, by decide⟩ kt kf
theorem bX12_isLine_161 {fr M1 M2 b1 b2 : Nat} {Q : RS → Nat → AH → Prop} {h : AH} {x0 x1 x2 x3 x4 x5 x6 : AV}   (hq : Q (.inl (some (zI 1))) 137 h) : Wp mX12_isLine (kR fr M1 M2) Q (b1, b2) 161 [x0, x1, x2, x3, x4, x5, x6] [] 137 h := by
  refine s_fgt (fgt_n _ (fgt_n _ (fgt_n _ (fgt_n _ (fgt_n _ (fgt_n _ (fgt_n _ fgt_0))))))) ?_
  refine s_iconst dX12_isLine_161 ?_
  exact s_ireturn dX12_isLine_162 ⟨.boolean, rfl, by decide⟩ hq (fun z => by cases z)
theorem bX12_isLine_163 {fr M1 M2 b1 b2 : Nat} {Q : RS → Nat → AH → Prop} {h : AH} {l1 : Int} {x2 x3 x4 x5 x6 : AV}   (kk : Wp mX12_isLine (kR fr M1 M2) Q (b1, b2) 13 [zR 98, zI (l1 + 1), none, none, none, none, none] [] 137 h) : Wp mX12_isLine (kR fr M1 M2) Q (b1, b2) 163 [zR 98, zI l1, x2, x3, x4, x5, x6] [] 137 h := by
  refine s_fgt (fgt_c (fgt_c (fgt_n _ (fgt_n _ (fgt_n _ (fgt_n _ (fgt_n _ fgt_0))))))) ?_
  refine s_iinc (x := l1) dX12_isLine_163 rfl rfl (by decide) ?_
  exact s_goto (tgt := 13) dX12_isLine_166 (by decide) kk
theorem bX12_isLine_169 {fr M1 M2 b1 b2 : Nat} {Q : RS → Nat → AH → Prop} {h : AH} {x0 x1 x2 x3 x4 x5 x6 : AV}   (hq : Q (.inl (some (zI 0))) 137 h) : Wp mX12_isLine (kR fr M1 M2) Q (b1, b2) 169 [x0, x1, x2, x3, x4, x5, x6] [] 137 h := by
  refine s_fgt (fgt_n _ (fgt_n _ (fgt_n _ (fgt_n _ (fgt_n _ (fgt_n _ (fgt_n _ fgt_0))))))) ?_
  refine s_iconst dX12_isLine_169 ?_
  exact s_ireturn dX12_isLine_170 ⟨.boolean, rfl, by decide⟩ hq (fun z => by cases z)
theorem dX12_answers_0 : decode mX12_answers.cd 0 = .ok (.aload_n 0, 1) := by decide +kernel
theorem dX12_answers_1 : decode mX12_answers.cd 1 = .ok (.iload_n 1, 1) := by decide +kernel
theorem dX12_answers_2 : decode mX12_answers.cd 2 = .ok (.invokevirtual 375, 3) := by decide +kernel
theorem dX12_answers_5 : decode mX12_answers.cd 5 = .ok (.aload_n 0, 1) := by decide +kernel
theorem dX12_answers_6 : decode mX12_answers.cd 6 = .ok (.invokevirtual 378, 3) := by decide +kernel
theorem dX12_answers_9 : decode mX12_answers.cd 9 = .ok (.ireturn, 1) := by decide +kernel
theorem bX12_answers_0 {fr M1 M2 b1 b2 : Nat} {Q : RS → Nat → AH → Prop} {h : AH} {l1 : Int} {R : AH → Prop}   (hS : Sp mX12_returns true (fr - 1) 0 0 [zR 98, zI l1] 137 h (rV R)) (hf : 1 ≤ fr := by omega) (kk : ∀ h' : AH, R h' → Wp mX12_answers (kR fr M1 M2) Q (b1, b2) 5 [zR 98, zI l1] [] 137 h') : Wp mX12_answers (kR fr M1 M2) Q (b1, b2) 0 [zR 98, zI l1] [] 137 h := by
  refine s_aload_n (x := 98) dX12_answers_0 rfl ?_
  refine s_iload_n (x := l1) dX12_answers_1 rfl ?_
  exact s_callV (as := [zI l1]) (st := []) (o := 98) dX12_answers_2 kX12_375 rfl ⟨12, 87, TX12, e98, rfl, by decide⟩ rfl rfl (Nat.le_of_ble_eq_true rfl) hS (show fr - 1 + 1 ≤ fr by omega) (Nat.zero_le _) (Nat.zero_le _) (fun v n' h' hP _ => by obtain ⟨e, rfl, hR⟩ := hP; cases e; exact kk h' hR) (fun E n' h' _ z => (rV_nt _ _ _ z).elim)
theorem bX12_answers_5 {fr M1 M2 b1 b2 : Nat} {Q : RS → Nat → AH → Prop} {h : AH} {x1 : AV} {R : Int → AH → Prop}   (hS : Sp mX12_isLine true (fr - 1) 0 0 [zR 98] 137 h (rI R)) (hf : 1 ≤ fr := by omega) (kk : ∀ (x : Int) (h' : AH), R x h' → Wp mX12_answers (kR fr M1 M2) Q (b1, b2) 9 [zR 98, none] [zI x] 137 h') : Wp mX12_answers (kR fr M1 M2) Q (b1, b2) 5 [zR 98, x1] [] 137 h := by
  refine s_fgt (fgt_c (fgt_n _ fgt_0)) ?_
  refine s_aload_n (x := 98) dX12_answers_5 rfl ?_
  exact s_callV (as := []) (st := []) (o := 98) dX12_answers_6 kX12_378 rfl ⟨12, 87, TX12, e98, rfl, by decide⟩ rfl rfl (Nat.le_of_ble_eq_true rfl) hS (show fr - 1 + 1 ≤ fr by omega) (Nat.zero_le _) (Nat.zero_le _) (fun v n' h' hP _ => by obtain ⟨x, e, rfl, hR⟩ := hP; cases e; exact kk x h' hR) (fun E n' h' _ z => (rI_nt _ _ _ z).elim)
theorem bX12_answers_9 {fr M1 M2 b1 b2 : Nat} {Q : RS → Nat → AH → Prop} {h : AH} {s0 : Int} {x0 x1 : AV}  (r1 : s0 = 0 ∨ s0 = 1 := by omega) (hq : Q (.inl (some (zI s0))) 137 h) : Wp mX12_answers (kR fr M1 M2) Q (b1, b2) 9 [x0, x1] [zI s0] 137 h := by
  refine s_fgt (fgt_n _ (fgt_n _ fgt_0)) ?_
  exact s_ireturn dX12_answers_9 ⟨.boolean, rfl, bool_nar r1⟩ hq (fun z => by cases z)
theorem dX12_isEchoed_0 : decode mX12_isEchoed.cd 0 = .ok (.aload_n 0, 1) := by decide +kernel
theorem dX12_isEchoed_1 : decode mX12_isEchoed.cd 1 = .ok (.getfield 77, 3) := by decide +kernel
theorem dX12_isEchoed_4 : decode mX12_isEchoed.cd 4 = .ok (.aload_n 0, 1) := by decide +kernel
theorem dX12_isEchoed_5 : decode mX12_isEchoed.cd 5 = .ok (.getfield 23, 3) := by decide +kernel
theorem dX12_isEchoed_8 : decode mX12_isEchoed.cd 8 = .ok (.iconst 4, 1) := by decide +kernel
theorem dX12_isEchoed_9 : decode mX12_isEchoed.cd 9 = .ok (.aload_n 0, 1) := by decide +kernel
theorem dX12_isEchoed_10 : decode mX12_isEchoed.cd 10 = .ok (.getfield 353, 3) := by decide +kernel
theorem dX12_isEchoed_13 : decode mX12_isEchoed.cd 13 = .ok (.imul, 1) := by decide +kernel
theorem dX12_isEchoed_14 : decode mX12_isEchoed.cd 14 = .ok (.iaload, 1) := by decide +kernel
theorem dX12_isEchoed_15 : decode mX12_isEchoed.cd 15 = .ok (.iconst 1, 1) := by decide +kernel
theorem dX12_isEchoed_16 : decode mX12_isEchoed.cd 16 = .ok (.isub, 1) := by decide +kernel
theorem dX12_isEchoed_17 : decode mX12_isEchoed.cd 17 = .ok (.iaload, 1) := by decide +kernel
theorem dX12_isEchoed_18 : decode mX12_isEchoed.cd 18 = .ok (.istore_n 1, 1) := by decide +kernel
theorem dX12_isEchoed_19 : decode mX12_isEchoed.cd 19 = .ok (.aload_n 0, 1) := by decide +kernel
theorem dX12_isEchoed_20 : decode mX12_isEchoed.cd 20 = .ok (.getfield 368, 3) := by decide +kernel
theorem dX12_isEchoed_23 : decode mX12_isEchoed.cd 23 = .ok (.aload_n 0, 1) := by decide +kernel
theorem dX12_isEchoed_24 : decode mX12_isEchoed.cd 24 = .ok (.getfield 20, 3) := by decide +kernel
theorem dX12_isEchoed_27 : decode mX12_isEchoed.cd 27 = .ok (.bipush 6, 2) := by decide +kernel
theorem dX12_isEchoed_29 : decode mX12_isEchoed.cd 29 = .ok (.iload_n 1, 1) := by decide +kernel
theorem dX12_isEchoed_30 : decode mX12_isEchoed.cd 30 = .ok (.imul, 1) := by decide +kernel
theorem dX12_isEchoed_31 : decode mX12_isEchoed.cd 31 = .ok (.iconst 1, 1) := by decide +kernel
theorem dX12_isEchoed_32 : decode mX12_isEchoed.cd 32 = .ok (.iadd, 1) := by decide +kernel
theorem dX12_isEchoed_33 : decode mX12_isEchoed.cd 33 = .ok (.iaload, 1) := by decide +kernel
theorem dX12_isEchoed_34 : decode mX12_isEchoed.cd 34 = .ok (.if_icmp .ne 16, 3) := by decide +kernel
theorem dX12_isEchoed_37 : decode mX12_isEchoed.cd 37 = .ok (.aload_n 0, 1) := by decide +kernel
theorem dX12_isEchoed_38 : decode mX12_isEchoed.cd 38 = .ok (.iload_n 1, 1) := by decide +kernel
theorem dX12_isEchoed_39 : decode mX12_isEchoed.cd 39 = .ok (.iconst 0, 1) := by decide +kernel
theorem dX12_isEchoed_40 : decode mX12_isEchoed.cd 40 = .ok (.invokevirtual 371, 3) := by decide +kernel
theorem dX12_isEchoed_43 : decode mX12_isEchoed.cd 43 = .ok (.ifCond .eq 7, 3) := by decide +kernel
theorem dX12_isEchoed_46 : decode mX12_isEchoed.cd 46 = .ok (.iconst 1, 1) := by decide +kernel
theorem dX12_isEchoed_47 : decode mX12_isEchoed.cd 47 = .ok (.goto 4, 3) := by decide +kernel
theorem dX12_isEchoed_50 : decode mX12_isEchoed.cd 50 = .ok (.iconst 0, 1) := by decide +kernel
theorem dX12_isEchoed_51 : decode mX12_isEchoed.cd 51 = .ok (.ireturn, 1) := by decide +kernel
theorem bX12_isEchoed_0 {fr M1 M2 b1 b2 : Nat} {Q : RS → Nat → AH → Prop} {h : AH} {x1 : AV}  (r1 : 0 ≤ 4 * (h 98 53) ∧ 4 * (h 98 53) < 24 := by omega) (r2 : 0 ≤ (h 102 (4 * (h 98 53))) - 1 ∧ (h 102 (4 * (h 98 53))) - 1 < 3 := by omega) (r3 : 0 ≤ (6 * (h 118 ((h 102 (4 * (h 98 53))) - 1))) + 1 ∧ (6 * (h 118 ((h 102 (4 * (h 98 53))) - 1))) + 1 < 48 := by omega) (r4 : -2147483648 ≤ h 98 58 ∧ h 98 58 < 2147483648 := by omega) (r5 : -2147483648 ≤ h 101 ((6 * (h 118 ((h 102 (4 * (h 98 53))) - 1))) + 1) ∧ h 101 ((6 * (h 118 ((h 102 (4 * (h 98 53))) - 1))) + 1) < 2147483648 := by omega) (kt : ¬ h 98 58 = h 101 ((6 * (h 118 ((h 102 (4 * (h 98 53))) - 1))) + 1) → Wp mX12_isEchoed (kR fr M1 M2) Q (b1, b2) 50 [zR 98, zI (h 118 ((h 102 (4 * (h 98 53))) - 1))] [] 137 h) (kf : h 98 58 = h 101 ((6 * (h 118 ((h 102 (4 * (h 98 53))) - 1))) + 1) → Wp mX12_isEchoed (kR fr M1 M2) Q (b1, b2) 37 [zR 98, zI (h 118 ((h 102 (4 * (h 98 53))) - 1))] [] 137 h) : Wp mX12_isEchoed (kR fr M1 M2) Q (b1, b2) 0 [zR 98, x1] [] 137 h := by
  refine s_fgt (fgt_c (fgt_n _ fgt_0)) ?_
  refine s_aload_n (x := 98) dX12_isEchoed_0 rfl ?_
  refine s_getFd (c := 98) (d := 118) dX12_isEchoed_1 lX12_77 e98 (Or.inl rfl) (by decide) (by decide) ?_
  refine s_aload_n (x := 98) dX12_isEchoed_4 rfl ?_
  refine s_getFd (c := 98) (d := 102) dX12_isEchoed_5 lX12_23 e98 (Or.inl rfl) (by decide) (by decide) ?_
  refine s_iconst dX12_isEchoed_8 ?_
  refine s_aload_n (x := 98) dX12_isEchoed_9 rfl ?_
  refine s_get (c := 98) dX12_isEchoed_10 lX12_353 e98 (by decide) ?_
  refine s_imul dX12_isEchoed_13 ?_
  refine s_iald (c := 102) (i := 4 * (h 98 53)) dX12_isEchoed_14 e102 r1.1 r1.2 ?_
  refine s_iconst dX12_isEchoed_15 ?_
  refine s_isub dX12_isEchoed_16 ?_
  refine s_iald (c := 118) (i := (h 102 (4 * (h 98 53))) - 1) dX12_isEchoed_17 e118 r2.1 r2.2 ?_
  refine s_istore_n dX12_isEchoed_18 rfl (by decide) ?_
  refine s_aload_n (x := 98) dX12_isEchoed_19 rfl ?_
  refine s_get (c := 98) dX12_isEchoed_20 lX12_368 e98 (by decide) ?_
  refine s_aload_n (x := 98) dX12_isEchoed_23 rfl ?_
  refine s_getFd (c := 98) (d := 101) dX12_isEchoed_24 lX12_20 e98 (Or.inl rfl) (by decide) (by decide) ?_
  refine s_bipush dX12_isEchoed_27 (by decide) ?_
  refine s_iload_n (x := h 118 ((h 102 (4 * (h 98 53))) - 1)) dX12_isEchoed_29 rfl ?_
  refine s_imul dX12_isEchoed_30 ?_
  refine s_iconst dX12_isEchoed_31 ?_
  refine s_iadd dX12_isEchoed_32 ?_
  refine s_iald (c := 101) (i := (6 * (h 118 ((h 102 (4 * (h 98 53))) - 1))) + 1) dX12_isEchoed_33 e101 r3.1 r3.2 ?_
  exact s_icmp_ne (tgt := 50) dX12_isEchoed_34 (by decide) r4 r5 kt kf
theorem bX12_isEchoed_37 {fr M1 M2 b1 b2 : Nat} {Q : RS → Nat → AH → Prop} {h : AH} {l1 : Int} {R : Int → AH → Prop}   (hS : Sp mX12_isWordAt true (fr - 1) 0 0 [zR 98, zI l1, zI 0] 137 h (rI R)) (hf : 1 ≤ fr := by omega) (kk : ∀ (x : Int) (h' : AH), R x h' → Wp mX12_isEchoed (kR fr M1 M2) Q (b1, b2) 43 [zR 98, zI l1] [zI x] 137 h') : Wp mX12_isEchoed (kR fr M1 M2) Q (b1, b2) 37 [zR 98, zI l1] [] 137 h := by
  refine s_aload_n (x := 98) dX12_isEchoed_37 rfl ?_
  refine s_iload_n (x := l1) dX12_isEchoed_38 rfl ?_
  refine s_iconst dX12_isEchoed_39 ?_
  exact s_callV (as := [zI l1, zI 0]) (st := []) (o := 98) dX12_isEchoed_40 kX12_371 rfl ⟨12, 87, TX12, e98, rfl, by decide⟩ rfl rfl (Nat.le_of_ble_eq_true rfl) hS (show fr - 1 + 1 ≤ fr by omega) (Nat.zero_le _) (Nat.zero_le _) (fun v n' h' hP _ => by obtain ⟨x, e, rfl, hR⟩ := hP; cases e; exact kk x h' hR) (fun E n' h' _ z => (rI_nt _ _ _ z).elim)
theorem bX12_isEchoed_43 {fr M1 M2 b1 b2 : Nat} {Q : RS → Nat → AH → Prop} {h : AH} {s0 : Int} {x0 x1 : AV}  (r1 : -2147483648 ≤ s0 ∧ s0 < 2147483648 := by omega) (kt : s0 = 0 → Wp mX12_isEchoed (kR fr M1 M2) Q (b1, b2) 50 [none, none] [] 137 h) (kf : ¬ s0 = 0 → Wp mX12_isEchoed (kR fr M1 M2) Q (b1, b2) 46 [none, none] [] 137 h) : Wp mX12_isEchoed (kR fr M1 M2) Q (b1, b2) 43 [x0, x1] [zI s0] 137 h := by
  refine s_fgt (fgt_n _ (fgt_n _ fgt_0)) ?_
  exact s_if_eq (tgt := 50) dX12_isEchoed_43 (by decide) r1 kt kf
theorem bX12_isEchoed_46 {fr M1 M2 b1 b2 : Nat} {Q : RS → Nat → AH → Prop} {h : AH} {x0 x1 : AV}   (kk : Wp mX12_isEchoed (kR fr M1 M2) Q (b1, b2) 51 [none, none] [zI 1] 137 h) : Wp mX12_isEchoed (kR fr M1 M2) Q (b1, b2) 46 [x0, x1] [] 137 h := by
  refine s_fgt (fgt_n _ (fgt_n _ fgt_0)) ?_
  refine s_iconst dX12_isEchoed_46 ?_
  exact s_goto (tgt := 51) dX12_isEchoed_47 (by decide) kk
theorem bX12_isEchoed_50 {fr M1 M2 b1 b2 : Nat} {Q : RS → Nat → AH → Prop} {h : AH} {x0 x1 : AV}   (kk : Wp mX12_isEchoed (kR fr M1 M2) Q (b1, b2) 51 [none, none] [zI 0] 137 h) : Wp mX12_isEchoed (kR fr M1 M2) Q (b1, b2) 50 [x0, x1] [] 137 h := by
  refine s_fgt (fgt_n _ (fgt_n _ fgt_0)) ?_
  refine s_iconst dX12_isEchoed_50 ?_
  exact kk
theorem bX12_isEchoed_51 {fr M1 M2 b1 b2 : Nat} {Q : RS → Nat → AH → Prop} {h : AH} {s0 : Int} {x0 x1 : AV}  (r1 : s0 = 0 ∨ s0 = 1 := by omega) (hq : Q (.inl (some (zI s0))) 137 h) : Wp mX12_isEchoed (kR fr M1 M2) Q (b1, b2) 51 [x0, x1] [zI s0] 137 h := by
  refine s_fgt (fgt_n _ (fgt_n _ fgt_0)) ?_
  exact s_ireturn dX12_isEchoed_51 ⟨.boolean, rfl, bool_nar r1⟩ hq (fun z => by cases z)
theorem dX12_goesThrough_0 : decode mX12_goesThrough.cd 0 = .ok (.aload_n 0, 1) := by decide +kernel
theorem dX12_goesThrough_1 : decode mX12_goesThrough.cd 1 = .ok (.iconst 0, 1) := by decide +kernel
theorem dX12_goesThrough_2 : decode mX12_goesThrough.cd 2 = .ok (.putfield 381, 3) := by decide +kernel
theorem dX12_goesThrough_5 : decode mX12_goesThrough.cd 5 = .ok (.aload_n 0, 1) := by decide +kernel
theorem dX12_goesThrough_6 : decode mX12_goesThrough.cd 6 = .ok (.iconst 0, 1) := by decide +kernel
theorem dX12_goesThrough_7 : decode mX12_goesThrough.cd 7 = .ok (.putfield 384, 3) := by decide +kernel
theorem dX12_goesThrough_10 : decode mX12_goesThrough.cd 10 = .ok (.aload_n 0, 1) := by decide +kernel
theorem dX12_goesThrough_11 : decode mX12_goesThrough.cd 11 = .ok (.iconst (-1), 1) := by decide +kernel
theorem dX12_goesThrough_12 : decode mX12_goesThrough.cd 12 = .ok (.putfield 387, 3) := by decide +kernel
theorem dX12_goesThrough_15 : decode mX12_goesThrough.cd 15 = .ok (.aload_n 0, 1) := by decide +kernel
theorem dX12_goesThrough_16 : decode mX12_goesThrough.cd 16 = .ok (.iconst 0, 1) := by decide +kernel
theorem dX12_goesThrough_17 : decode mX12_goesThrough.cd 17 = .ok (.putfield 390, 3) := by decide +kernel
theorem dX12_goesThrough_20 : decode mX12_goesThrough.cd 20 = .ok (.iconst 0, 1) := by decide +kernel
theorem dX12_goesThrough_21 : decode mX12_goesThrough.cd 21 = .ok (.istore_n 2, 1) := by decide +kernel
theorem dX12_goesThrough_22 : decode mX12_goesThrough.cd 22 = .ok (.iload_n 2, 1) := by decide +kernel
theorem dX12_goesThrough_23 : decode mX12_goesThrough.cd 23 = .ok (.aload_n 0, 1) := by decide +kernel
theorem dX12_goesThrough_24 : decode mX12_goesThrough.cd 24 = .ok (.getfield 276, 3) := by decide +kernel
theorem dX12_goesThrough_27 : decode mX12_goesThrough.cd 27 = .ok (.if_icmp .ge 47, 3) := by decide +kernel
theorem dX12_goesThrough_30 : decode mX12_goesThrough.cd 30 = .ok (.aload_n 0, 1) := by decide +kernel
theorem dX12_goesThrough_31 : decode mX12_goesThrough.cd 31 = .ok (.getfield 89, 3) := by decide +kernel
theorem dX12_goesThrough_34 : decode mX12_goesThrough.cd 34 = .ok (.iload_n 2, 1) := by decide +kernel
theorem dX12_goesThrough_35 : decode mX12_goesThrough.cd 35 = .ok (.iconst 0, 1) := by decide +kernel
theorem dX12_goesThrough_36 : decode mX12_goesThrough.cd 36 = .ok (.iastore, 1) := by decide +kernel
theorem dX12_goesThrough_37 : decode mX12_goesThrough.cd 37 = .ok (.aload_n 0, 1) := by decide +kernel
theorem dX12_goesThrough_38 : decode mX12_goesThrough.cd 38 = .ok (.dup, 1) := by decide +kernel
theorem dX12_goesThrough_39 : decode mX12_goesThrough.cd 39 = .ok (.getfield 390, 3) := by decide +kernel
theorem dX12_goesThrough_42 : decode mX12_goesThrough.cd 42 = .ok (.aload_n 0, 1) := by decide +kernel
theorem dX12_goesThrough_43 : decode mX12_goesThrough.cd 43 = .ok (.iload_n 2, 1) := by decide +kernel
theorem dX12_goesThrough_44 : decode mX12_goesThrough.cd 44 = .ok (.invokevirtual 350, 3) := by decide +kernel
theorem dX12_goesThrough_47 : decode mX12_goesThrough.cd 47 = .ok (.ifCond .le 16, 3) := by decide +kernel
theorem dX12_goesThrough_50 : decode mX12_goesThrough.cd 50 = .ok (.aload_n 0, 1) := by decide +kernel
theorem dX12_goesThrough_51 : decode mX12_goesThrough.cd 51 = .ok (.aload_n 0, 1) := by decide +kernel
theorem dX12_goesThrough_52 : decode mX12_goesThrough.cd 52 = .ok (.iload_n 2, 1) := by decide +kernel
theorem dX12_goesThrough_53 : decode mX12_goesThrough.cd 53 = .ok (.iconst 0, 1) := by decide +kernel
theorem dX12_goesThrough_54 : decode mX12_goesThrough.cd 54 = .ok (.invokevirtual 344, 3) := by decide +kernel
theorem dX12_goesThrough_57 : decode mX12_goesThrough.cd 57 = .ok (.invokevirtual 347, 3) := by decide +kernel
theorem dX12_goesThrough_60 : decode mX12_goesThrough.cd 60 = .ok (.goto 4, 3) := by decide +kernel
theorem dX12_goesThrough_63 : decode mX12_goesThrough.cd 63 = .ok (.iconst 0, 1) := by decide +kernel
theorem dX12_goesThrough_64 : decode mX12_goesThrough.cd 64 = .ok (.iadd, 1) := by decide +kernel
theorem dX12_goesThrough_65 : decode mX12_goesThrough.cd 65 = .ok (.putfield 390, 3) := by decide +kernel
theorem dX12_goesThrough_68 : decode mX12_goesThrough.cd 68 = .ok (.iinc 2 1, 3) := by decide +kernel
theorem dX12_goesThrough_71 : decode mX12_goesThrough.cd 71 = .ok (.goto (-49), 3) := by decide +kernel
theorem dX12_goesThrough_74 : decode mX12_goesThrough.cd 74 = .ok (.aload_n 0, 1) := by decide +kernel
theorem dX12_goesThrough_75 : decode mX12_goesThrough.cd 75 = .ok (.invokevirtual 393, 3) := by decide +kernel
theorem dX12_goesThrough_78 : decode mX12_goesThrough.cd 78 = .ok (.istore_n 2, 1) := by decide +kernel
theorem dX12_goesThrough_79 : decode mX12_goesThrough.cd 79 = .ok (.iload_n 2, 1) := by decide +kernel
theorem dX12_goesThrough_80 : decode mX12_goesThrough.cd 80 = .ok (.ifCond .eq 119, 3) := by decide +kernel
theorem dX12_goesThrough_83 : decode mX12_goesThrough.cd 83 = .ok (.aload_n 0, 1) := by decide +kernel
theorem dX12_goesThrough_84 : decode mX12_goesThrough.cd 84 = .ok (.iload_n 1, 1) := by decide +kernel
theorem dX12_goesThrough_85 : decode mX12_goesThrough.cd 85 = .ok (.invokevirtual 396, 3) := by decide +kernel
theorem dX12_goesThrough_88 : decode mX12_goesThrough.cd 88 = .ok (.istore_n 3, 1) := by decide +kernel
theorem dX12_goesThrough_89 : decode mX12_goesThrough.cd 89 = .ok (.aload_n 0, 1) := by decide +kernel
theorem dX12_goesThrough_90 : decode mX12_goesThrough.cd 90 = .ok (.dup, 1) := by decide +kernel
theorem dX12_goesThrough_91 : decode mX12_goesThrough.cd 91 = .ok (.getfield 384, 3) := by decide +kernel
theorem dX12_goesThrough_94 : decode mX12_goesThrough.cd 94 = .ok (.aload_n 0, 1) := by decide +kernel
theorem dX12_goesThrough_95 : decode mX12_goesThrough.cd 95 = .ok (.invokevirtual 399, 3) := by decide +kernel
theorem dX12_goesThrough_98 : decode mX12_goesThrough.cd 98 = .ok (.ifCond .eq 7, 3) := by decide +kernel
theorem dX12_goesThrough_101 : decode mX12_goesThrough.cd 101 = .ok (.iconst 1, 1) := by decide +kernel
theorem dX12_goesThrough_102 : decode mX12_goesThrough.cd 102 = .ok (.goto 4, 3) := by decide +kernel
theorem dX12_goesThrough_105 : decode mX12_goesThrough.cd 105 = .ok (.iconst 0, 1) := by decide +kernel
theorem dX12_goesThrough_106 : decode mX12_goesThrough.cd 106 = .ok (.iadd, 1) := by decide +kernel
theorem dX12_goesThrough_107 : decode mX12_goesThrough.cd 107 = .ok (.putfield 384, 3) := by decide +kernel
theorem dX12_goesThrough_110 : decode mX12_goesThrough.cd 110 = .ok (.iload_n 3, 1) := by decide +kernel
theorem dX12_goesThrough_111 : decode mX12_goesThrough.cd 111 = .ok (.ifCond .eq 80, 3) := by decide +kernel
theorem dX12_goesThrough_114 : decode mX12_goesThrough.cd 114 = .ok (.aload_n 0, 1) := by decide +kernel
theorem dX12_goesThrough_115 : decode mX12_goesThrough.cd 115 = .ok (.dup, 1) := by decide +kernel
theorem dX12_goesThrough_116 : decode mX12_goesThrough.cd 116 = .ok (.getfield 381, 3) := by decide +kernel
theorem dX12_goesThrough_119 : decode mX12_goesThrough.cd 119 = .ok (.iconst 1, 1) := by decide +kernel
theorem dX12_goesThrough_120 : decode mX12_goesThrough.cd 120 = .ok (.iadd, 1) := by decide +kernel
theorem dX12_goesThrough_121 : decode mX12_goesThrough.cd 121 = .ok (.putfield 381, 3) := by decide +kernel
theorem dX12_goesThrough_124 : decode mX12_goesThrough.cd 124 = .ok (.aload_n 0, 1) := by decide +kernel
theorem dX12_goesThrough_125 : decode mX12_goesThrough.cd 125 = .ok (.getfield 89, 3) := by decide +kernel
theorem dX12_goesThrough_128 : decode mX12_goesThrough.cd 128 = .ok (.aload_n 0, 1) := by decide +kernel
theorem dX12_goesThrough_129 : decode mX12_goesThrough.cd 129 = .ok (.getfield 353, 3) := by decide +kernel
theorem dX12_goesThrough_132 : decode mX12_goesThrough.cd 132 = .ok (.dup2, 1) := by decide +kernel
theorem dX12_goesThrough_133 : decode mX12_goesThrough.cd 133 = .ok (.iaload, 1) := by decide +kernel
theorem dX12_goesThrough_134 : decode mX12_goesThrough.cd 134 = .ok (.iconst 1, 1) := by decide +kernel
theorem dX12_goesThrough_135 : decode mX12_goesThrough.cd 135 = .ok (.aload_n 0, 1) := by decide +kernel
theorem dX12_goesThrough_136 : decode mX12_goesThrough.cd 136 = .ok (.getfield 77, 3) := by decide +kernel
theorem dX12_goesThrough_139 : decode mX12_goesThrough.cd 139 = .ok (.iconst 0, 1) := by decide +kernel
theorem dX12_goesThrough_140 : decode mX12_goesThrough.cd 140 = .ok (.iaload, 1) := by decide +kernel
theorem dX12_goesThrough_141 : decode mX12_goesThrough.cd 141 = .ok (.ishl, 1) := by decide +kernel
theorem dX12_goesThrough_142 : decode mX12_goesThrough.cd 142 = .ok (.ior, 1) := by decide +kernel
theorem dX12_goesThrough_143 : decode mX12_goesThrough.cd 143 = .ok (.iastore, 1) := by decide +kernel
theorem dX12_goesThrough_144 : decode mX12_goesThrough.cd 144 = .ok (.aload_n 0, 1) := by decide +kernel
theorem dX12_goesThrough_145 : decode mX12_goesThrough.cd 145 = .ok (.getfield 387, 3) := by decide +kernel
theorem dX12_goesThrough_148 : decode mX12_goesThrough.cd 148 = .ok (.iconst (-1), 1) := by decide +kernel
theorem dX12_goesThrough_149 : decode mX12_goesThrough.cd 149 = .ok (.if_icmp .eq 14, 3) := by decide +kernel
theorem dX12_goesThrough_152 : decode mX12_goesThrough.cd 152 = .ok (.aload_n 0, 1) := by decide +kernel
theorem dX12_goesThrough_153 : decode mX12_goesThrough.cd 153 = .ok (.getfield 362, 3) := by decide +kernel
theorem dX12_goesThrough_156 : decode mX12_goesThrough.cd 156 = .ok (.aload_n 0, 1) := by decide +kernel
theorem dX12_goesThrough_157 : decode mX12_goesThrough.cd 157 = .ok (.getfield 387, 3) := by decide +kernel
theorem dX12_goesThrough_160 : decode mX12_goesThrough.cd 160 = .ok (.if_icmp .ge 31, 3) := by decide +kernel
theorem dX12_goesThrough_163 : decode mX12_goesThrough.cd 163 = .ok (.aload_n 0, 1) := by decide +kernel
theorem dX12_goesThrough_164 : decode mX12_goesThrough.cd 164 = .ok (.aload_n 0, 1) := by decide +kernel
theorem dX12_goesThrough_165 : decode mX12_goesThrough.cd 165 = .ok (.getfield 362, 3) := by decide +kernel
theorem dX12_goesThrough_168 : decode mX12_goesThrough.cd 168 = .ok (.putfield 387, 3) := by decide +kernel
theorem dX12_goesThrough_171 : decode mX12_goesThrough.cd 171 = .ok (.aload_n 0, 1) := by decide +kernel
theorem dX12_goesThrough_172 : decode mX12_goesThrough.cd 172 = .ok (.aload_n 0, 1) := by decide +kernel
theorem dX12_goesThrough_173 : decode mX12_goesThrough.cd 173 = .ok (.getfield 353, 3) := by decide +kernel
theorem dX12_goesThrough_176 : decode mX12_goesThrough.cd 176 = .ok (.putfield 402, 3) := by decide +kernel
theorem dX12_goesThrough_179 : decode mX12_goesThrough.cd 179 = .ok (.aload_n 0, 1) := by decide +kernel
theorem dX12_goesThrough_180 : decode mX12_goesThrough.cd 180 = .ok (.aload_n 0, 1) := by decide +kernel
theorem dX12_goesThrough_181 : decode mX12_goesThrough.cd 181 = .ok (.getfield 77, 3) := by decide +kernel
theorem dX12_goesThrough_184 : decode mX12_goesThrough.cd 184 = .ok (.aload_n 0, 1) := by decide +kernel
theorem dX12_goesThrough_185 : decode mX12_goesThrough.cd 185 = .ok (.getfield 86, 3) := by decide +kernel
theorem dX12_goesThrough_188 : decode mX12_goesThrough.cd 188 = .ok (.invokevirtual 285, 3) := by decide +kernel
theorem dX12_goesThrough_191 : decode mX12_goesThrough.cd 191 = .ok (.aload_n 0, 1) := by decide +kernel
theorem dX12_goesThrough_192 : decode mX12_goesThrough.cd 192 = .ok (.invokevirtual 405, 3) := by decide +kernel
theorem dX12_goesThrough_195 : decode mX12_goesThrough.cd 195 = .ok (.istore_n 2, 1) := by decide +kernel
theorem dX12_goesThrough_196 : decode mX12_goesThrough.cd 196 = .ok (.goto (-117), 3) := by decide +kernel
theorem dX12_goesThrough_199 : decode mX12_goesThrough.cd 199 = .ok (.return_, 1) := by decide +kernel
theorem bX12_goesThrough_0 {fr M1 M2 b1 b2 : Nat} {Q : RS → Nat → AH → Prop} {h : AH} {l1 : Int} {x2 x3 : AV}   (kk : Wp mX12_goesThrough (kR fr M1 M2) Q (b1, b2) 22 [zR 98, zI l1, zI 0, none] [] 137 (up (up (up (up h 98 59 0) 98 60 0) 98 61 (-1)) 98 63 0)) : Wp mX12_goesThrough (kR fr M1 M2) Q (b1, b2) 0 [zR 98, zI l1, x2, x3] [] 137 h := by
  refine s_fgt (fgt_c (fgt_c (fgt_n _ (fgt_n _ fgt_0)))) ?_
  refine s_aload_n (x := 98) dX12_goesThrough_0 rfl ?_
  refine s_iconst dX12_goesThrough_1 ?_
  refine s_put (c := 98) dX12_goesThrough_2 lX12_381 e98 ?_
  refine s_aload_n (x := 98) dX12_goesThrough_5 rfl ?_
  refine s_iconst dX12_goesThrough_6 ?_
  refine s_put (c := 98) dX12_goesThrough_7 lX12_384 e98 ?_
  refine s_aload_n (x := 98) dX12_goesThrough_10 rfl ?_
  refine s_iconst dX12_goesThrough_11 ?_
  refine s_put (c := 98) dX12_goesThrough_12 lX12_387 e98 ?_
  refine s_aload_n (x := 98) dX12_goesThrough_15 rfl ?_
  refine s_iconst dX12_goesThrough_16 ?_
  refine s_put (c := 98) dX12_goesThrough_17 lX12_390 e98 ?_
  refine s_iconst dX12_goesThrough_20 ?_
  refine s_istore_n dX12_goesThrough_21 rfl (by decide) ?_
  exact kk
theorem bX12_goesThrough_22 {fr M1 M2 b1 b2 : Nat} {Q : RS → Nat → AH → Prop} {h : AH} {l1 l2 : Int} {x3 : AV}  (r1 : -2147483648 ≤ l2 ∧ l2 < 2147483648 := by omega) (r2 : -2147483648 ≤ h 98 4 ∧ h 98 4 < 2147483648 := by omega) (kt : h 98 4 ≤ l2 → Wp mX12_goesThrough (kR fr M1 M2) Q (b1, b2) 74 [zR 98, zI l1, zI l2, none] [] 137 h) (kf : l2 < h 98 4 → Wp mX12_goesThrough (kR fr M1 M2) Q (b1, b2) 30 [zR 98, zI l1, zI l2, none] [] 137 h) : Wp mX12_goesThrough (kR fr M1 M2) Q (b1, b2) 22 [zR 98, zI l1, zI l2, x3] [] 137 h := by
  refine s_fgt (fgt_c (fgt_c (fgt_c (fgt_n _ fgt_0)))) ?_
  refine s_iload_n (x := l2) dX12_goesThrough_22 rfl ?_
  refine s_aload_n (x := 98) dX12_goesThrough_23 rfl ?_
  refine s_get (c := 98) dX12_goesThrough_24 lX12_276 e98 (by decide) ?_
  exact s_icmp_ge (tgt := 74) dX12_goesThrough_27 (by decide) r1 r2 kt kf
theorem bX12_goesThrough_30 {fr M1 M2 b1 b2 : Nat} {Q : RS → Nat → AH → Prop} {h : AH} {l1 l2 : Int} {x3 : AV} {R : Int → AH → Prop}  (r1 : 0 ≤ l2 ∧ l2 < 6 := by omega) (hS : Sp mX12_linesOf true (fr - 1) 0 0 [zR 98, zI l2] 137 (up h 122 l2 0) (rI R)) (hf : 1 ≤ fr := by omega) (kk : ∀ (x : Int) (h' : AH), R x h' → Wp mX12_goesThrough (kR fr M1 M2) Q (b1, b2) 47 [zR 98, zI l1, zI l2, none] [zI x, zI (h 98 63), zR 98] 137 h') : Wp mX12_goesThrough (kR fr M1 M2) Q (b1, b2) 30 [zR 98, zI l1, zI l2, x3] [] 137 h := by
  refine s_fgt (fgt_c (fgt_c (fgt_c (fgt_n _ fgt_0)))) ?_
  refine s_aload_n (x := 98) dX12_goesThrough_30 rfl ?_
  refine s_getFd (c := 98) (d := 122) dX12_goesThrough_31 lX12_89 e98 (Or.inl rfl) (by decide) (by decide) ?_
  refine s_iload_n (x := l2) dX12_goesThrough_34 rfl ?_
  refine s_iconst dX12_goesThrough_35 ?_
  refine s_iast (c := 122) (i := l2) dX12_goesThrough_36 e122 r1.1 r1.2 ?_
  refine s_aload_n (x := 98) dX12_goesThrough_37 rfl ?_
  refine s_dup dX12_goesThrough_38 rfl ?_
  refine s_get (c := 98) dX12_goesThrough_39 lX12_390 e98 (by decide) ?_
  refine s_aload_n (x := 98) dX12_goesThrough_42 rfl ?_
  refine s_iload_n (x := l2) dX12_goesThrough_43 rfl ?_
  exact s_callV (as := [zI l2]) (st := [zI (h 98 63), zR 98]) (o := 98) dX12_goesThrough_44 kX12_350 rfl ⟨12, 87, TX12, e98, rfl, by decide⟩ rfl rfl (Nat.le_of_ble_eq_true rfl) hS (show fr - 1 + 1 ≤ fr by omega) (Nat.zero_le _) (Nat.zero_le _) (fun v n' h' hP _ => by obtain ⟨x, e, rfl, hR⟩ := hP; cases e; exact kk x h' hR) (fun E n' h' _ z => (rI_nt _ _ _ z).elim)
theorem bX12_goesThrough_47 {fr M1 M2 b1 b2 : Nat} {Q : RS → Nat → AH → Prop} {h : AH} {l1 l2 s1 s0 : Int} {x3 : AV}  (r1 : -2147483648 ≤ s0 ∧ s0 < 2147483648 := by omega) (kt : s0 ≤ 0 → Wp mX12_goesThrough (kR fr M1 M2) Q (b1, b2) 63 [zR 98, zI l1, zI l2, none] [zI s1, zR 98] 137 h) (kf : 0 < s0 → Wp mX12_goesThrough (kR fr M1 M2) Q (b1, b2) 50 [zR 98, zI l1, zI l2, none] [zI s1, zR 98] 137 h) : Wp mX12_goesThrough (kR fr M1 M2) Q (b1, b2) 47 [zR 98, zI l1, zI l2, x3] [zI s0, zI s1, zR 98] 137 h := by
  refine s_fgt (fgt_c (fgt_c (fgt_c (fgt_n _ fgt_0)))) ?_
  exact s_if_le (tgt := 63) dX12_goesThrough_47 (by decide) r1 kt kf
theorem bX12_goesThrough_50 {fr M1 M2 b1 b2 : Nat} {Q : RS → Nat → AH → Prop} {h : AH} {l1 l2 s0 : Int} {x3 : AV} {R : Int → AH → Prop}   (hS : Sp mX12_kindOf true (fr - 1) 0 0 [zR 98, zI l2, zI 0] 137 h (rI R)) (hf : 1 ≤ fr := by omega) (kk : ∀ (x : Int) (h' : AH), R x h' → Wp mX12_goesThrough (kR fr M1 M2) Q (b1, b2) 57 [zR 98, zI l1, zI l2, none] [zI x, zR 98, zI s0, zR 98] 137 h') : Wp mX12_goesThrough (kR fr M1 M2) Q (b1, b2) 50 [zR 98, zI l1, zI l2, x3] [zI s0, zR 98] 137 h := by
  refine s_fgt (fgt_c (fgt_c (fgt_c (fgt_n _ fgt_0)))) ?_
  refine s_aload_n (x := 98) dX12_goesThrough_50 rfl ?_
  refine s_aload_n (x := 98) dX12_goesThrough_51 rfl ?_
  refine s_iload_n (x := l2) dX12_goesThrough_52 rfl ?_
  refine s_iconst dX12_goesThrough_53 ?_
  exact s_callV (as := [zI l2, zI 0]) (st := [zR 98, zI s0, zR 98]) (o := 98) dX12_goesThrough_54 kX12_344 rfl ⟨12, 87, TX12, e98, rfl, by decide⟩ rfl rfl (Nat.le_of_ble_eq_true rfl) hS (show fr - 1 + 1 ≤ fr by omega) (Nat.zero_le _) (Nat.zero_le _) (fun v n' h' hP _ => by obtain ⟨x, e, rfl, hR⟩ := hP; cases e; exact kk x h' hR) (fun E n' h' _ z => (rI_nt _ _ _ z).elim)
theorem bX12_goesThrough_57 {fr M1 M2 b1 b2 : Nat} {Q : RS → Nat → AH → Prop} {h : AH} {l1 l2 s2 s0 : Int} {x3 : AV} {R : Int → AH → Prop}   (hS : Sp mX12_wordsOf true (fr - 1) 0 0 [zR 98, zI s0] 137 h (rI R)) (hf : 1 ≤ fr := by omega) (kk : ∀ (x : Int) (h' : AH), R x h' → Wp mX12_goesThrough (kR fr M1 M2) Q (b1, b2) 60 [zR 98, zI l1, zI l2, none] [zI x, zI s2, zR 98] 137 h') : Wp mX12_goesThrough (kR fr M1 M2) Q (b1, b2) 57 [zR 98, zI l1, zI l2, x3] [zI s0, zR 98, zI s2, zR 98] 137 h := by
  refine s_fgt (fgt_c (fgt_c (fgt_c (fgt_n _ fgt_0)))) ?_
  exact s_callV (as := [zI s0]) (st := [zI s2, zR 98]) (o := 98) dX12_goesThrough_57 kX12_347 rfl ⟨12, 87, TX12, e98, rfl, by decide⟩ rfl rfl (Nat.le_of_ble_eq_true rfl) hS (show fr - 1 + 1 ≤ fr by omega) (Nat.zero_le _) (Nat.zero_le _) (fun v n' h' hP _ => by obtain ⟨x, e, rfl, hR⟩ := hP; cases e; exact kk x h' hR) (fun E n' h' _ z => (rI_nt _ _ _ z).elim)
theorem bX12_goesThrough_60 {fr M1 M2 b1 b2 : Nat} {Q : RS → Nat → AH → Prop} {h : AH} {l1 l2 s1 s0 : Int} {x3 : AV}   (kk : Wp mX12_goesThrough (kR fr M1 M2) Q (b1, b2) 64 [zR 98, zI l1, zI l2, none] [zI s0, zI s1, zR 98] 137 h) : Wp mX12_goesThrough (kR fr M1 M2) Q (b1, b2) 60 [zR 98, zI l1, zI l2, x3] [zI s0, zI s1, zR 98] 137 h := by
  refine s_fgt (fgt_c (fgt_c (fgt_c (fgt_n _ fgt_0)))) ?_
  exact s_goto (tgt := 64) dX12_goesThrough_60 (by decide) kk
theorem bX12_goesThrough_63 {fr M1 M2 b1 b2 : Nat} {Q : RS → Nat → AH → Prop} {h : AH} {l1 l2 s0 : Int} {x3 : AV}   (kk : Wp mX12_goesThrough (kR fr M1 M2) Q (b1, b2) 64 [zR 98, zI l1, zI l2, none] [zI 0, zI s0, zR 98] 137 h) : Wp mX12_goesThrough (kR fr M1 M2) Q (b1, b2) 63 [zR 98, zI l1, zI l2, x3] [zI s0, zR 98] 137 h := by
  refine s_fgt (fgt_c (fgt_c (fgt_c (fgt_n _ fgt_0)))) ?_
  refine s_iconst dX12_goesThrough_63 ?_
  exact kk
theorem bX12_goesThrough_64 {fr M1 M2 b1 b2 : Nat} {Q : RS → Nat → AH → Prop} {h : AH} {l1 l2 s1 s0 : Int} {x3 : AV}   (kk : Wp mX12_goesThrough (kR fr M1 M2) Q (b1, b2) 22 [zR 98, zI l1, zI (l2 + 1), none] [] 137 (up h 98 63 (s1 + s0))) : Wp mX12_goesThrough (kR fr M1 M2) Q (b1, b2) 64 [zR 98, zI l1, zI l2, x3] [zI s0, zI s1, zR 98] 137 h := by
  refine s_fgt (fgt_c (fgt_c (fgt_c (fgt_n _ fgt_0)))) ?_
  refine s_iadd dX12_goesThrough_64 ?_
  refine s_put (c := 98) dX12_goesThrough_65 lX12_390 e98 ?_
  refine s_iinc (x := l2) dX12_goesThrough_68 rfl rfl (by decide) ?_
  exact s_goto (tgt := 22) dX12_goesThrough_71 (by decide) kk
theorem bX12_goesThrough_74 {fr M1 M2 b1 b2 : Nat} {Q : RS → Nat → AH → Prop} {h : AH} {l1 : Int} {x2 x3 : AV} {R : Int → AH → Prop}   (hS : Sp mX12_firstLine true (fr - 1) 0 0 [zR 98] 137 h (rI R)) (hf : 1 ≤ fr := by omega) (kk : ∀ (x : Int) (h' : AH), R x h' → Wp mX12_goesThrough (kR fr M1 M2) Q (b1, b2) 78 [zR 98, zI l1, none, none] [zI x] 137 h') : Wp mX12_goesThrough (kR fr M1 M2) Q (b1, b2) 74 [zR 98, zI l1, x2, x3] [] 137 h := by
  refine s_fgt (fgt_c (fgt_c (fgt_n _ (fgt_n _ fgt_0)))) ?_
  refine s_aload_n (x := 98) dX12_goesThrough_74 rfl ?_
  exact s_callV (as := []) (st := []) (o := 98) dX12_goesThrough_75 kX12_393 rfl ⟨12, 87, TX12, e98, rfl, by decide⟩ rfl rfl (Nat.le_of_ble_eq_true rfl) hS (show fr - 1 + 1 ≤ fr by omega) (Nat.zero_le _) (Nat.zero_le _) (fun v n' h' hP _ => by obtain ⟨x, e, rfl, hR⟩ := hP; cases e; exact kk x h' hR) (fun E n' h' _ z => (rI_nt _ _ _ z).elim)
theorem bX12_goesThrough_78 {fr M1 M2 b1 b2 : Nat} {Q : RS → Nat → AH → Prop} {h : AH} {l1 s0 : Int} {x2 x3 : AV}   (kk : Wp mX12_goesThrough (kR fr M1 M2) Q (b1, b2) 79 [zR 98, zI l1, zI s0, none] [] 137 h) : Wp mX12_goesThrough (kR fr M1 M2) Q (b1, b2) 78 [zR 98, zI l1, x2, x3] [zI s0] 137 h := by
  refine s_fgt (fgt_c (fgt_c (fgt_n _ (fgt_n _ fgt_0)))) ?_
  refine s_istore_n dX12_goesThrough_78 rfl (by decide) ?_
  exact kk
theorem bX12_goesThrough_79 {fr M1 M2 b1 b2 : Nat} {Q : RS → Nat → AH → Prop} {h : AH} {l1 l2 : Int} {x3 : AV}  (r1 : -2147483648 ≤ l2 ∧ l2 < 2147483648 := by omega) (kt : l2 = 0 → Wp mX12_goesThrough (kR fr M1 M2) Q (b1, b2) 199 [zR 98, zI l1, zI l2, none] [] 137 h) (kf : ¬ l2 = 0 → Wp mX12_goesThrough (kR fr M1 M2) Q (b1, b2) 83 [zR 98, zI l1, zI l2, none] [] 137 h) : Wp mX12_goesThrough (kR fr M1 M2) Q (b1, b2) 79 [zR 98, zI l1, zI l2, x3] [] 137 h := by
  refine s_fgt (fgt_c (fgt_c (fgt_c (fgt_n _ fgt_0)))) ?_
  refine s_iload_n (x := l2) dX12_goesThrough_79 rfl ?_
  exact s_if_eq (tgt := 199) dX12_goesThrough_80 (by decide) r1 kt kf
theorem bX12_goesThrough_83 {fr M1 M2 b1 b2 : Nat} {Q : RS → Nat → AH → Prop} {h : AH} {l1 : Int} {x2 x3 : AV} {R : Int → AH → Prop}   (hS : Sp mX12_answers true (fr - 1) 0 0 [zR 98, zI l1] 137 h (rI R)) (hf : 1 ≤ fr := by omega) (kk : ∀ (x : Int) (h' : AH), R x h' → Wp mX12_goesThrough (kR fr M1 M2) Q (b1, b2) 88 [zR 98, zI l1, none, none] [zI x] 137 h') : Wp mX12_goesThrough (kR fr M1 M2) Q (b1, b2) 83 [zR 98, zI l1, x2, x3] [] 137 h := by
  refine s_fgt (fgt_c (fgt_c (fgt_n _ (fgt_n _ fgt_0)))) ?_
  refine s_aload_n (x := 98) dX12_goesThrough_83 rfl ?_
  refine s_iload_n (x := l1) dX12_goesThrough_84 rfl ?_
  exact s_callV (as := [zI l1]) (st := []) (o := 98) dX12_goesThrough_85 kX12_396 rfl ⟨12, 87, TX12, e98, rfl, by decide⟩ rfl rfl (Nat.le_of_ble_eq_true rfl) hS (show fr - 1 + 1 ≤ fr by omega) (Nat.zero_le _) (Nat.zero_le _) (fun v n' h' hP _ => by obtain ⟨x, e, rfl, hR⟩ := hP; cases e; exact kk x h' hR) (fun E n' h' _ z => (rI_nt _ _ _ z).elim)
theorem bX12_goesThrough_88 {fr M1 M2 b1 b2 : Nat} {Q : RS → Nat → AH → Prop} {h : AH} {l1 s0 : Int} {x2 x3 : AV} {R : Int → AH → Prop}   (hS : Sp mX12_isEchoed true (fr - 1) 0 0 [zR 98] 137 h (rI R)) (hf : 1 ≤ fr := by omega) (kk : ∀ (x : Int) (h' : AH), R x h' → Wp mX12_goesThrough (kR fr M1 M2) Q (b1, b2) 98 [zR 98, zI l1, none, zI s0] [zI x, zI (h 98 60), zR 98] 137 h') : Wp mX12_goesThrough (kR fr M1 M2) Q (b1, b2) 88 [zR 98, zI l1, x2, x3] [zI s0] 137 h := by
  refine s_fgt (fgt_c (fgt_c (fgt_n _ (fgt_n _ fgt_0)))) ?_
  refine s_istore_n dX12_goesThrough_88 rfl (by decide) ?_
  refine s_aload_n (x := 98) dX12_goesThrough_89 rfl ?_
  refine s_dup dX12_goesThrough_90 rfl ?_
  refine s_get (c := 98) dX12_goesThrough_91 lX12_384 e98 (by decide) ?_
  refine s_aload_n (x := 98) dX12_goesThrough_94 rfl ?_
  exact s_callV (as := []) (st := [zI (h 98 60), zR 98]) (o := 98) dX12_goesThrough_95 kX12_399 rfl ⟨12, 87, TX12, e98, rfl, by decide⟩ rfl rfl (Nat.le_of_ble_eq_true rfl) hS (show fr - 1 + 1 ≤ fr by omega) (Nat.zero_le _) (Nat.zero_le _) (fun v n' h' hP _ => by obtain ⟨x, e, rfl, hR⟩ := hP; cases e; exact kk x h' hR) (fun E n' h' _ z => (rI_nt _ _ _ z).elim)
theorem bX12_goesThrough_98 {fr M1 M2 b1 b2 : Nat} {Q : RS → Nat → AH → Prop} {h : AH} {l1 l3 s1 s0 : Int} {x2 : AV}  (r1 : -2147483648 ≤ s0 ∧ s0 < 2147483648 := by omega) (kt : s0 = 0 → Wp mX12_goesThrough (kR fr M1 M2) Q (b1, b2) 105 [zR 98, zI l1, none, zI l3] [zI s1, zR 98] 137 h) (kf : ¬ s0 = 0 → Wp mX12_goesThrough (kR fr M1 M2) Q (b1, b2) 101 [zR 98, zI l1, none, zI l3] [zI s1, zR 98] 137 h) : Wp mX12_goesThrough (kR fr M1 M2) Q (b1, b2) 98 [zR 98, zI l1, x2, zI l3] [zI s0, zI s1, zR 98] 137 h := by
  refine s_fgt (fgt_c (fgt_c (fgt_n _ (fgt_c fgt_0)))) ?_
  exact s_if_eq (tgt := 105) dX12_goesThrough_98 (by decide) r1 kt kf
theorem bX12_goesThrough_101 {fr M1 M2 b1 b2 : Nat} {Q : RS → Nat → AH → Prop} {h : AH} {l1 l3 s0 : Int} {x2 : AV}   (kk : Wp mX12_goesThrough (kR fr M1 M2) Q (b1, b2) 106 [zR 98, zI l1, none, zI l3] [zI 1, zI s0, zR 98] 137 h) : Wp mX12_goesThrough (kR fr M1 M2) Q (b1, b2) 101 [zR 98, zI l1, x2, zI l3] [zI s0, zR 98] 137 h := by
  refine s_fgt (fgt_c (fgt_c (fgt_n _ (fgt_c fgt_0)))) ?_
  refine s_iconst dX12_goesThrough_101 ?_
  exact s_goto (tgt := 106) dX12_goesThrough_102 (by decide) kk
theorem bX12_goesThrough_105 {fr M1 M2 b1 b2 : Nat} {Q : RS → Nat → AH → Prop} {h : AH} {l1 l3 s0 : Int} {x2 : AV}   (kk : Wp mX12_goesThrough (kR fr M1 M2) Q (b1, b2) 106 [zR 98, zI l1, none, zI l3] [zI 0, zI s0, zR 98] 137 h) : Wp mX12_goesThrough (kR fr M1 M2) Q (b1, b2) 105 [zR 98, zI l1, x2, zI l3] [zI s0, zR 98] 137 h := by
  refine s_fgt (fgt_c (fgt_c (fgt_n _ (fgt_c fgt_0)))) ?_
  refine s_iconst dX12_goesThrough_105 ?_
  exact kk
theorem bX12_goesThrough_106 {fr M1 M2 b1 b2 : Nat} {Q : RS → Nat → AH → Prop} {h : AH} {l1 l3 s1 s0 : Int} {x2 : AV}  (r1 : -2147483648 ≤ l3 ∧ l3 < 2147483648 := by omega) (kt : l3 = 0 → Wp mX12_goesThrough (kR fr M1 M2) Q (b1, b2) 191 [zR 98, zI l1, none, zI l3] [] 137 (up h 98 60 (s1 + s0))) (kf : ¬ l3 = 0 → Wp mX12_goesThrough (kR fr M1 M2) Q (b1, b2) 114 [zR 98, zI l1, none, zI l3] [] 137 (up h 98 60 (s1 + s0))) : Wp mX12_goesThrough (kR fr M1 M2) Q (b1, b2) 106 [zR 98, zI l1, x2, zI l3] [zI s0, zI s1, zR 98] 137 h := by
  refine s_fgt (fgt_c (fgt_c (fgt_n _ (fgt_c fgt_0)))) ?_
  refine s_iadd dX12_goesThrough_106 ?_
  refine s_put (c := 98) dX12_goesThrough_107 lX12_384 e98 ?_
  refine s_iload_n (x := l3) dX12_goesThrough_110 rfl ?_
  exact s_if_eq (tgt := 191) dX12_goesThrough_111 (by decide) r1 kt kf
theorem bX12_goesThrough_114 {fr M1 M2 b1 b2 : Nat} {Q : RS → Nat → AH → Prop} {h : AH} {l1 : Int} {x2 x3 : AV}  (r1 : 0 ≤ h 98 53 ∧ h 98 53 < 6 := by omega) (r2 : 0 ≤ h 118 0 ∧ h 118 0 < 32 := by omega) (r3 : -2147483648 ≤ h 98 61 ∧ h 98 61 < 2147483648 := by omega) (kt : h 98 61 = (-1) → Wp mX12_goesThrough (kR fr M1 M2) Q (b1, b2) 163 [zR 98, zI l1, none, none] [] 137 (up (up h 98 59 ((h 98 59) + 1)) 122 (h 98 53) (bOr (h 122 (h 98 53)) (1 * 2 ^ (h 118 0).toNat)))) (kf : ¬ h 98 61 = (-1) → Wp mX12_goesThrough (kR fr M1 M2) Q (b1, b2) 152 [zR 98, zI l1, none, none] [] 137 (up (up h 98 59 ((h 98 59) + 1)) 122 (h 98 53) (bOr (h 122 (h 98 53)) (1 * 2 ^ (h 118 0).toNat)))) : Wp mX12_goesThrough (kR fr M1 M2) Q (b1, b2) 114 [zR 98, zI l1, x2, x3] [] 137 h := by
  refine s_fgt (fgt_c (fgt_c (fgt_n _ (fgt_n _ fgt_0)))) ?_
  refine s_aload_n (x := 98) dX12_goesThrough_114 rfl ?_
  refine s_dup dX12_goesThrough_115 rfl ?_
  refine s_get (c := 98) dX12_goesThrough_116 lX12_381 e98 (by decide) ?_
  refine s_iconst dX12_goesThrough_119 ?_
  refine s_iadd dX12_goesThrough_120 ?_
  refine s_put (c := 98) dX12_goesThrough_121 lX12_381 e98 ?_
  refine s_aload_n (x := 98) dX12_goesThrough_124 rfl ?_
  refine s_getFd (c := 98) (d := 122) dX12_goesThrough_125 lX12_89 e98 (Or.inl rfl) (by decide) (by decide) ?_
  refine s_aload_n (x := 98) dX12_goesThrough_128 rfl ?_
  refine s_get (c := 98) dX12_goesThrough_129 lX12_353 e98 (by decide) ?_
  refine s_dup2 dX12_goesThrough_132 rfl rfl ?_
  refine s_iald (c := 122) (i := h 98 53) dX12_goesThrough_133 e122 r1.1 r1.2 ?_
  refine s_iconst dX12_goesThrough_134 ?_
  refine s_aload_n (x := 98) dX12_goesThrough_135 rfl ?_
  refine s_getFd (c := 98) (d := 118) dX12_goesThrough_136 lX12_77 e98 (Or.inl rfl) (by decide) (by decide) ?_
  refine s_iconst dX12_goesThrough_139 ?_
  refine s_iald (c := 118) (i := 0) dX12_goesThrough_140 e118 (by decide) (by decide) ?_
  refine s_ishlN dX12_goesThrough_141 r2.1 r2.2 ?_
  refine s_ior dX12_goesThrough_142 ?_
  refine s_iast (c := 122) (i := h 98 53) dX12_goesThrough_143 e122 r1.1 r1.2 ?_
  refine s_aload_n (x := 98) dX12_goesThrough_144 rfl ?_
  refine s_get (c := 98) dX12_goesThrough_145 lX12_387 e98 (by decide) ?_
  refine s_iconst dX12_goesThrough_148 ?_
  exact s_icmp_eq (tgt := 163) dX12_goesThrough_149 (by decide) r3 ⟨by decide, by decide⟩ kt kf
theorem bX12_goesThrough_152 {fr M1 M2 b1 b2 : Nat} {Q : RS → Nat → AH → Prop} {h : AH} {l1 : Int} {x2 x3 : AV}  (r1 : -2147483648 ≤ h 98 57 ∧ h 98 57 < 2147483648 := by omega) (r2 : -2147483648 ≤ h 98 61 ∧ h 98 61 < 2147483648 := by omega) (kt : h 98 61 ≤ h 98 57 → Wp mX12_goesThrough (kR fr M1 M2) Q (b1, b2) 191 [zR 98, zI l1, none, none] [] 137 h) (kf : h 98 57 < h 98 61 → Wp mX12_goesThrough (kR fr M1 M2) Q (b1, b2) 163 [zR 98, zI l1, none, none] [] 137 h) : Wp mX12_goesThrough (kR fr M1 M2) Q (b1, b2) 152 [zR 98, zI l1, x2, x3] [] 137 h := by
  refine s_fgt (fgt_c (fgt_c (fgt_n _ (fgt_n _ fgt_0)))) ?_
  refine s_aload_n (x := 98) dX12_goesThrough_152 rfl ?_
  refine s_get (c := 98) dX12_goesThrough_153 lX12_362 e98 (by decide) ?_
  refine s_aload_n (x := 98) dX12_goesThrough_156 rfl ?_
  refine s_get (c := 98) dX12_goesThrough_157 lX12_387 e98 (by decide) ?_
  exact s_icmp_ge (tgt := 191) dX12_goesThrough_160 (by decide) r1 r2 kt kf
theorem bX12_goesThrough_163 {fr M1 M2 b1 b2 : Nat} {Q : RS → Nat → AH → Prop} {h : AH} {l1 : Int} {x2 x3 : AV} {R : AH → Prop}   (hS : Sp mX12_copies true (fr - 1) 0 0 [zR 98, zR 118, zR 121] 137 (up (up h 98 61 (h 98 57)) 98 62 (h 98 53)) (rV R)) (hf : 1 ≤ fr := by omega) (kk : ∀ h' : AH, R h' → Wp mX12_goesThrough (kR fr M1 M2) Q (b1, b2) 191 [zR 98, zI l1, none, none] [] 137 h') : Wp mX12_goesThrough (kR fr M1 M2) Q (b1, b2) 163 [zR 98, zI l1, x2, x3] [] 137 h := by
  refine s_fgt (fgt_c (fgt_c (fgt_n _ (fgt_n _ fgt_0)))) ?_
  refine s_aload_n (x := 98) dX12_goesThrough_163 rfl ?_
  refine s_aload_n (x := 98) dX12_goesThrough_164 rfl ?_
  refine s_get (c := 98) dX12_goesThrough_165 lX12_362 e98 (by decide) ?_
  refine s_put (c := 98) dX12_goesThrough_168 lX12_387 e98 ?_
  refine s_aload_n (x := 98) dX12_goesThrough_171 rfl ?_
  refine s_aload_n (x := 98) dX12_goesThrough_172 rfl ?_
  refine s_get (c := 98) dX12_goesThrough_173 lX12_353 e98 (by decide) ?_
  refine s_put (c := 98) dX12_goesThrough_176 lX12_402 e98 ?_
  refine s_aload_n (x := 98) dX12_goesThrough_179 rfl ?_
  refine s_aload_n (x := 98) dX12_goesThrough_180 rfl ?_
  refine s_getFd (c := 98) (d := 118) dX12_goesThrough_181 lX12_77 e98 (Or.inl rfl) (by decide) (by decide) ?_
  refine s_aload_n (x := 98) dX12_goesThrough_184 rfl ?_
  refine s_getFd (c := 98) (d := 121) dX12_goesThrough_185 lX12_86 e98 (Or.inl rfl) (by decide) (by decide) ?_
  exact s_callV (as := [zR 118, zR 121]) (st := []) (o := 98) dX12_goesThrough_188 kX12_285 rfl ⟨12, 87, TX12, e98, rfl, by decide⟩ rfl rfl (Nat.le_of_ble_eq_true rfl) hS (show fr - 1 + 1 ≤ fr by omega) (Nat.zero_le _) (Nat.zero_le _) (fun v n' h' hP _ => by obtain ⟨e, rfl, hR⟩ := hP; cases e; exact kk h' hR) (fun E n' h' _ z => (rV_nt _ _ _ z).elim)
theorem bX12_goesThrough_191 {fr M1 M2 b1 b2 : Nat} {Q : RS → Nat → AH → Prop} {h : AH} {l1 : Int} {x2 x3 : AV} {R : Int → AH → Prop}   (hS : Sp mX12_nextLine true (fr - 1) 0 0 [zR 98] 137 h (rI R)) (hf : 1 ≤ fr := by omega) (kk : ∀ (x : Int) (h' : AH), R x h' → Wp mX12_goesThrough (kR fr M1 M2) Q (b1, b2) 195 [zR 98, zI l1, none, none] [zI x] 137 h') : Wp mX12_goesThrough (kR fr M1 M2) Q (b1, b2) 191 [zR 98, zI l1, x2, x3] [] 137 h := by
  refine s_fgt (fgt_c (fgt_c (fgt_n _ (fgt_n _ fgt_0)))) ?_
  refine s_aload_n (x := 98) dX12_goesThrough_191 rfl ?_
  exact s_callV (as := []) (st := []) (o := 98) dX12_goesThrough_192 kX12_405 rfl ⟨12, 87, TX12, e98, rfl, by decide⟩ rfl rfl (Nat.le_of_ble_eq_true rfl) hS (show fr - 1 + 1 ≤ fr by omega) (Nat.zero_le _) (Nat.zero_le _) (fun v n' h' hP _ => by obtain ⟨x, e, rfl, hR⟩ := hP; cases e; exact kk x h' hR) (fun E n' h' _ z => (rI_nt _ _ _ z).elim)
theorem bX12_goesThrough_195 {fr M1 M2 b1 b2 : Nat} {Q : RS → Nat → AH → Prop} {h : AH} {l1 s0 : Int} {x2 x3 : AV}   (kk : Wp mX12_goesThrough (kR fr M1 M2) Q (b1, b2) 79 [zR 98, zI l1, zI s0, none] [] 137 h) : Wp mX12_goesThrough (kR fr M1 M2) Q (b1, b2) 195 [zR 98, zI l1, x2, x3] [zI s0] 137 h := by
  refine s_fgt (fgt_c (fgt_c (fgt_n _ (fgt_n _ fgt_0)))) ?_
  refine s_istore_n dX12_goesThrough_195 rfl (by decide) ?_
  exact s_goto (tgt := 79) dX12_goesThrough_196 (by decide) kk
theorem bX12_goesThrough_199 {fr M1 M2 b1 b2 : Nat} {Q : RS → Nat → AH → Prop} {h : AH} {x0 x1 x2 x3 : AV}   (hq : Q (.inl none) 137 h) : Wp mX12_goesThrough (kR fr M1 M2) Q (b1, b2) 199 [x0, x1, x2, x3] [] 137 h := by
  refine s_fgt (fgt_n _ (fgt_n _ (fgt_n _ (fgt_n _ fgt_0)))) ?_
  exact s_return dX12_goesThrough_199 rfl hq (fun z => by cases z)
theorem dX12_bits_0 : decode mX12_bits.cd 0 = .ok (.iconst 0, 1) := by decide +kernel
theorem dX12_bits_1 : decode mX12_bits.cd 1 = .ok (.istore_n 1, 1) := by decide +kernel
theorem dX12_bits_2 : decode mX12_bits.cd 2 = .ok (.iconst 0, 1) := by decide +kernel
theorem dX12_bits_3 : decode mX12_bits.cd 3 = .ok (.istore_n 2, 1) := by decide +kernel
theorem dX12_bits_4 : decode mX12_bits.cd 4 = .ok (.iload_n 2, 1) := by decide +kernel
theorem dX12_bits_5 : decode mX12_bits.cd 5 = .ok (.bipush 31, 2) := by decide +kernel
theorem dX12_bits_7 : decode mX12_bits.cd 7 = .ok (.if_icmp .ge 17, 3) := by decide +kernel
theorem dX12_bits_10 : decode mX12_bits.cd 10 = .ok (.iload_n 1, 1) := by decide +kernel
theorem dX12_bits_11 : decode mX12_bits.cd 11 = .ok (.iload_n 0, 1) := by decide +kernel
theorem dX12_bits_12 : decode mX12_bits.cd 12 = .ok (.iload_n 2, 1) := by decide +kernel
theorem dX12_bits_13 : decode mX12_bits.cd 13 = .ok (.ishr, 1) := by decide +kernel
theorem dX12_bits_14 : decode mX12_bits.cd 14 = .ok (.iconst 1, 1) := by decide +kernel
theorem dX12_bits_15 : decode mX12_bits.cd 15 = .ok (.iand, 1) := by decide +kernel
theorem dX12_bits_16 : decode mX12_bits.cd 16 = .ok (.iadd, 1) := by decide +kernel
theorem dX12_bits_17 : decode mX12_bits.cd 17 = .ok (.istore_n 1, 1) := by decide +kernel
theorem dX12_bits_18 : decode mX12_bits.cd 18 = .ok (.iinc 2 1, 3) := by decide +kernel
theorem dX12_bits_21 : decode mX12_bits.cd 21 = .ok (.goto (-17), 3) := by decide +kernel
theorem dX12_bits_24 : decode mX12_bits.cd 24 = .ok (.iload_n 1, 1) := by decide +kernel
theorem dX12_bits_25 : decode mX12_bits.cd 25 = .ok (.ireturn, 1) := by decide +kernel
theorem bX12_bits_0 {fr M1 M2 b1 b2 : Nat} {Q : RS → Nat → AH → Prop} {h : AH} {l0 : Int} {x1 x2 : AV}   (kk : Wp mX12_bits (kR fr M1 M2) Q (b1, b2) 4 [zI l0, zI 0, zI 0] [] 137 h) : Wp mX12_bits (kR fr M1 M2) Q (b1, b2) 0 [zI l0, x1, x2] [] 137 h := by
  refine s_fgt (fgt_c (fgt_n _ (fgt_n _ fgt_0))) ?_
  refine s_iconst dX12_bits_0 ?_
  refine s_istore_n dX12_bits_1 rfl (by decide) ?_
  refine s_iconst dX12_bits_2 ?_
  refine s_istore_n dX12_bits_3 rfl (by decide) ?_
  exact kk
theorem bX12_bits_4 {fr M1 M2 b1 b2 : Nat} {Q : RS → Nat → AH → Prop} {h : AH} {l0 l1 l2 : Int}  (r1 : -2147483648 ≤ l2 ∧ l2 < 2147483648 := by omega) (kt : 31 ≤ l2 → Wp mX12_bits (kR fr M1 M2) Q (b1, b2) 24 [zI l0, zI l1, zI l2] [] 137 h) (kf : l2 < 31 → Wp mX12_bits (kR fr M1 M2) Q (b1, b2) 10 [zI l0, zI l1, zI l2] [] 137 h) : Wp mX12_bits (kR fr M1 M2) Q (b1, b2) 4 [zI l0, zI l1, zI l2] [] 137 h := by
  refine s_iload_n (x := l2) dX12_bits_4 rfl ?_
  refine s_bipush dX12_bits_5 (by decide) ?_
  exact s_icmp_ge (tgt := 24) dX12_bits_7 (by decide) r1 ⟨by decide, by decide⟩ kt kf
theorem bX12_bits_10 {fr M1 M2 b1 b2 : Nat} {Q : RS → Nat → AH → Prop} {h : AH} {l0 l1 l2 : Int}  (r1 : 0 ≤ l2 ∧ l2 < 32 := by omega) (r2 : -2147483648 ≤ l0 ∧ l0 < 2147483648 := by omega) (kk : Wp mX12_bits (kR fr M1 M2) Q (b1, b2) 4 [zI l0, zI (l1 + (bAnd (l0 / 2 ^ l2.toNat) 1)), zI (l2 + 1)] [] 137 h) : Wp mX12_bits (kR fr M1 M2) Q (b1, b2) 10 [zI l0, zI l1, zI l2] [] 137 h := by
  refine s_iload_n (x := l1) dX12_bits_10 rfl ?_
  refine s_iload_n (x := l0) dX12_bits_11 rfl ?_
  refine s_iload_n (x := l2) dX12_bits_12 rfl ?_
  refine s_ishrN dX12_bits_13 r2 r1.1 r1.2 ?_
  refine s_iconst dX12_bits_14 ?_
  refine s_iand dX12_bits_15 ?_
  refine s_iadd dX12_bits_16 ?_
  refine s_istore_n dX12_bits_17 rfl (by decide) ?_
  refine s_iinc (x := l2) dX12_bits_18 rfl rfl (by decide) ?_
  exact s_goto (tgt := 4) dX12_bits_21 (by decide) kk
theorem bX12_bits_24 {fr M1 M2 b1 b2 : Nat} {Q : RS → Nat → AH → Prop} {h : AH} {l1 : Int} {x0 x2 : AV}   (hq : Q (.inl (some (zI l1))) 137 h) : Wp mX12_bits (kR fr M1 M2) Q (b1, b2) 24 [x0, zI l1, x2] [] 137 h := by
  refine s_fgt (fgt_n _ (fgt_c (fgt_n _ fgt_0))) ?_
  refine s_iload_n (x := l1) dX12_bits_24 rfl ?_
  exact s_ireturn dX12_bits_25 ⟨.int, rfl, rfl⟩ hq (fun z => by cases z)
theorem dX12_isHour_0 : decode mX12_isHour.cd 0 = .ok (.aload_n 0, 1) := by decide +kernel
theorem dX12_isHour_1 : decode mX12_isHour.cd 1 = .ok (.iload_n 1, 1) := by decide +kernel
theorem dX12_isHour_2 : decode mX12_isHour.cd 2 = .ok (.iconst 0, 1) := by decide +kernel
theorem dX12_isHour_3 : decode mX12_isHour.cd 3 = .ok (.bipush 23, 2) := by decide +kernel
theorem dX12_isHour_5 : decode mX12_isHour.cd 5 = .ok (.invokestatic 301, 3) := by decide +kernel
theorem dX12_isHour_8 : decode mX12_isHour.cd 8 = .ok (.iconst 1, 1) := by decide +kernel
theorem dX12_isHour_9 : decode mX12_isHour.cd 9 = .ok (.invokevirtual 260, 3) := by decide +kernel
theorem dX12_isHour_12 : decode mX12_isHour.cd 12 = .ok (.ireturn, 1) := by decide +kernel
theorem bX12_isHour_0 {fr M1 M2 b1 b2 : Nat} {Q : RS → Nat → AH → Prop} {h : AH} {l1 : Int} {R : Int → AH → Prop}   (hS : Sp mX12_within true (fr - 1) 0 0 [zI l1, zI 0, zI 23] 137 h (rI R)) (hf : 1 ≤ fr := by omega) (kk : ∀ (x : Int) (h' : AH), R x h' → Wp mX12_isHour (kR fr M1 M2) Q (b1, b2) 8 [zR 98, zI l1] [zI x, zR 98] 137 h') : Wp mX12_isHour (kR fr M1 M2) Q (b1, b2) 0 [zR 98, zI l1] [] 137 h := by
  refine s_aload_n (x := 98) dX12_isHour_0 rfl ?_
  refine s_iload_n (x := l1) dX12_isHour_1 rfl ?_
  refine s_iconst dX12_isHour_2 ?_
  refine s_bipush dX12_isHour_3 (by decide) ?_
  exact s_callS (as := [zI l1, zI 0, zI 23]) (st := [zR 98]) dX12_isHour_5 kX12_301 rfl rfl (Nat.le_of_ble_eq_true rfl) hS (show fr - 1 + 1 ≤ fr by omega) (Nat.zero_le _) (Nat.zero_le _) (fun v n' h' hP _ => by obtain ⟨x, e, rfl, hR⟩ := hP; cases e; exact kk x h' hR) (fun E n' h' _ z => (rI_nt _ _ _ z).elim)
theorem bX12_isHour_8 {fr M1 M2 b1 b2 : Nat} {Q : RS → Nat → AH → Prop} {h : AH} {s0 : Int} {x0 x1 : AV} {R : Int → AH → Prop}   (hS : Sp mX12_right true (fr - 1) 0 0 [zR 98, zI s0, zI 1] 137 h (rI R)) (hf : 1 ≤ fr := by omega) (kk : ∀ (x : Int) (h' : AH), R x h' → Wp mX12_isHour (kR fr M1 M2) Q (b1, b2) 12 [none, none] [zI x] 137 h') : Wp mX12_isHour (kR fr M1 M2) Q (b1, b2) 8 [x0, x1] [zI s0, zR 98] 137 h := by
  refine s_fgt (fgt_n _ (fgt_n _ fgt_0)) ?_
  refine s_iconst dX12_isHour_8 ?_
  exact s_callV (as := [zI s0, zI 1]) (st := []) (o := 98) dX12_isHour_9 kX12_260 rfl ⟨12, 87, TX12, e98, rfl, by decide⟩ rfl rfl (Nat.le_of_ble_eq_true rfl) hS (show fr - 1 + 1 ≤ fr by omega) (Nat.zero_le _) (Nat.zero_le _) (fun v n' h' hP _ => by obtain ⟨x, e, rfl, hR⟩ := hP; cases e; exact kk x h' hR) (fun E n' h' _ z => (rI_nt _ _ _ z).elim)
theorem bX12_isHour_12 {fr M1 M2 b1 b2 : Nat} {Q : RS → Nat → AH → Prop} {h : AH} {s0 : Int} {x0 x1 : AV}  (r1 : s0 = 0 ∨ s0 = 1 := by omega) (hq : Q (.inl (some (zI s0))) 137 h) : Wp mX12_isHour (kR fr M1 M2) Q (b1, b2) 12 [x0, x1] [zI s0] 137 h := by
  refine s_fgt (fgt_n _ (fgt_n _ fgt_0)) ?_
  exact s_ireturn dX12_isHour_12 ⟨.boolean, rfl, bool_nar r1⟩ hq (fun z => by cases z)
theorem dX12_lines_0 : decode mX12_lines.cd 0 = .ok (.aload_n 0, 1) := by decide +kernel
theorem dX12_lines_1 : decode mX12_lines.cd 1 = .ok (.iconst 0, 1) := by decide +kernel
theorem dX12_lines_2 : decode mX12_lines.cd 2 = .ok (.putfield 136, 3) := by decide +kernel
theorem dX12_lines_5 : decode mX12_lines.cd 5 = .ok (.aload_n 0, 1) := by decide +kernel
theorem dX12_lines_6 : decode mX12_lines.cd 6 = .ok (.iload_n 1, 1) := by decide +kernel
theorem dX12_lines_7 : decode mX12_lines.cd 7 = .ok (.invokevirtual 408, 3) := by decide +kernel
theorem dX12_lines_10 : decode mX12_lines.cd 10 = .ok (.ifCond .eq 17, 3) := by decide +kernel
theorem dX12_lines_13 : decode mX12_lines.cd 13 = .ok (.aload_n 0, 1) := by decide +kernel
theorem dX12_lines_14 : decode mX12_lines.cd 14 = .ok (.iload_n 2, 1) := by decide +kernel
theorem dX12_lines_15 : decode mX12_lines.cd 15 = .ok (.iconst 0, 1) := by decide +kernel
theorem dX12_lines_16 : decode mX12_lines.cd 16 = .ok (.iconst 4, 1) := by decide +kernel
theorem dX12_lines_17 : decode mX12_lines.cd 17 = .ok (.invokestatic 301, 3) := by decide +kernel
theorem dX12_lines_20 : decode mX12_lines.cd 20 = .ok (.iconst 1, 1) := by decide +kernel
theorem dX12_lines_21 : decode mX12_lines.cd 21 = .ok (.invokevirtual 260, 3) := by decide +kernel
theorem dX12_lines_24 : decode mX12_lines.cd 24 = .ok (.ifCond .ne 5, 3) := by decide +kernel
theorem dX12_lines_27 : decode mX12_lines.cd 27 = .ok (.iconst 0, 1) := by decide +kernel
theorem dX12_lines_28 : decode mX12_lines.cd 28 = .ok (.ireturn, 1) := by decide +kernel
theorem dX12_lines_29 : decode mX12_lines.cd 29 = .ok (.aload_n 0, 1) := by decide +kernel
theorem dX12_lines_30 : decode mX12_lines.cd 30 = .ok (.iload_n 1, 1) := by decide +kernel
theorem dX12_lines_31 : decode mX12_lines.cd 31 = .ok (.invokevirtual 411, 3) := by decide +kernel
theorem dX12_lines_34 : decode mX12_lines.cd 34 = .ok (.iconst 0, 1) := by decide +kernel
theorem dX12_lines_35 : decode mX12_lines.cd 35 = .ok (.istore_n 3, 1) := by decide +kernel
theorem dX12_lines_36 : decode mX12_lines.cd 36 = .ok (.iconst 0, 1) := by decide +kernel
theorem dX12_lines_37 : decode mX12_lines.cd 37 = .ok (.istore 4, 2) := by decide +kernel
theorem dX12_lines_39 : decode mX12_lines.cd 39 = .ok (.iload 4, 2) := by decide +kernel
theorem dX12_lines_41 : decode mX12_lines.cd 41 = .ok (.aload_n 0, 1) := by decide +kernel
theorem dX12_lines_42 : decode mX12_lines.cd 42 = .ok (.getfield 276, 3) := by decide +kernel
theorem dX12_lines_45 : decode mX12_lines.cd 45 = .ok (.if_icmp .ge 22, 3) := by decide +kernel
theorem dX12_lines_48 : decode mX12_lines.cd 48 = .ok (.iload_n 3, 1) := by decide +kernel
theorem dX12_lines_49 : decode mX12_lines.cd 49 = .ok (.aload_n 0, 1) := by decide +kernel
theorem dX12_lines_50 : decode mX12_lines.cd 50 = .ok (.getfield 89, 3) := by decide +kernel
theorem dX12_lines_53 : decode mX12_lines.cd 53 = .ok (.iload 4, 2) := by decide +kernel
theorem dX12_lines_55 : decode mX12_lines.cd 55 = .ok (.iaload, 1) := by decide +kernel
theorem dX12_lines_56 : decode mX12_lines.cd 56 = .ok (.invokestatic 414, 3) := by decide +kernel
theorem dX12_lines_59 : decode mX12_lines.cd 59 = .ok (.iadd, 1) := by decide +kernel
theorem dX12_lines_60 : decode mX12_lines.cd 60 = .ok (.istore_n 3, 1) := by decide +kernel
theorem dX12_lines_61 : decode mX12_lines.cd 61 = .ok (.iinc 4 1, 3) := by decide +kernel
theorem dX12_lines_64 : decode mX12_lines.cd 64 = .ok (.goto (-25), 3) := by decide +kernel
theorem dX12_lines_67 : decode mX12_lines.cd 67 = .ok (.iload_n 2, 1) := by decide +kernel
theorem dX12_lines_68 : decode mX12_lines.cd 68 = .ok (.ifCond .ne 10, 3) := by decide +kernel
theorem dX12_lines_71 : decode mX12_lines.cd 71 = .ok (.aload_n 0, 1) := by decide +kernel
theorem dX12_lines_72 : decode mX12_lines.cd 72 = .ok (.getfield 381, 3) := by decide +kernel
theorem dX12_lines_75 : decode mX12_lines.cd 75 = .ok (.goto 45, 3) := by decide +kernel
theorem dX12_lines_78 : decode mX12_lines.cd 78 = .ok (.iload_n 2, 1) := by decide +kernel
theorem dX12_lines_79 : decode mX12_lines.cd 79 = .ok (.iconst 1, 1) := by decide +kernel
theorem dX12_lines_80 : decode mX12_lines.cd 80 = .ok (.if_icmp .ne 10, 3) := by decide +kernel
theorem dX12_lines_83 : decode mX12_lines.cd 83 = .ok (.aload_n 0, 1) := by decide +kernel
theorem dX12_lines_84 : decode mX12_lines.cd 84 = .ok (.getfield 384, 3) := by decide +kernel
theorem dX12_lines_87 : decode mX12_lines.cd 87 = .ok (.goto 33, 3) := by decide +kernel
theorem dX12_lines_90 : decode mX12_lines.cd 90 = .ok (.iload_n 2, 1) := by decide +kernel
theorem dX12_lines_91 : decode mX12_lines.cd 91 = .ok (.iconst 2, 1) := by decide +kernel
theorem dX12_lines_92 : decode mX12_lines.cd 92 = .ok (.if_icmp .ne 10, 3) := by decide +kernel
theorem dX12_lines_95 : decode mX12_lines.cd 95 = .ok (.aload_n 0, 1) := by decide +kernel
theorem dX12_lines_96 : decode mX12_lines.cd 96 = .ok (.getfield 387, 3) := by decide +kernel
theorem dX12_lines_99 : decode mX12_lines.cd 99 = .ok (.goto 21, 3) := by decide +kernel
theorem dX12_lines_102 : decode mX12_lines.cd 102 = .ok (.iload_n 2, 1) := by decide +kernel
theorem dX12_lines_103 : decode mX12_lines.cd 103 = .ok (.iconst 3, 1) := by decide +kernel
theorem dX12_lines_104 : decode mX12_lines.cd 104 = .ok (.if_icmp .ne 12, 3) := by decide +kernel
theorem dX12_lines_107 : decode mX12_lines.cd 107 = .ok (.aload_n 0, 1) := by decide +kernel
theorem dX12_lines_108 : decode mX12_lines.cd 108 = .ok (.getfield 390, 3) := by decide +kernel
theorem dX12_lines_111 : decode mX12_lines.cd 111 = .ok (.iload_n 3, 1) := by decide +kernel
theorem dX12_lines_112 : decode mX12_lines.cd 112 = .ok (.isub, 1) := by decide +kernel
theorem dX12_lines_113 : decode mX12_lines.cd 113 = .ok (.goto 7, 3) := by decide +kernel
theorem dX12_lines_116 : decode mX12_lines.cd 116 = .ok (.aload_n 0, 1) := by decide +kernel
theorem dX12_lines_117 : decode mX12_lines.cd 117 = .ok (.getfield 390, 3) := by decide +kernel
theorem dX12_lines_120 : decode mX12_lines.cd 120 = .ok (.ireturn, 1) := by decide +kernel
theorem bX12_lines_0 {fr M1 M2 b1 b2 : Nat} {Q : RS → Nat → AH → Prop} {h : AH} {l1 l2 : Int} {x3 x4 : AV} {R : Int → AH → Prop}   (hS : Sp mX12_isHour true (fr - 1) 0 0 [zR 98, zI l1] 137 (up h 98 0 0) (rI R)) (hf : 1 ≤ fr := by omega) (kk : ∀ (x : Int) (h' : AH), R x h' → Wp mX12_lines (kR fr M1 M2) Q (b1, b2) 10 [zR 98, zI l1, zI l2, none, none] [zI x] 137 h') : Wp mX12_lines (kR fr M1 M2) Q (b1, b2) 0 [zR 98, zI l1, zI l2, x3, x4] [] 137 h := by
  refine s_fgt (fgt_c (fgt_c (fgt_c (fgt_n _ (fgt_n _ fgt_0))))) ?_
  refine s_aload_n (x := 98) dX12_lines_0 rfl ?_
  refine s_iconst dX12_lines_1 ?_
  refine s_put (c := 98) dX12_lines_2 lX12_136 e98 ?_
  refine s_aload_n (x := 98) dX12_lines_5 rfl ?_
  refine s_iload_n (x := l1) dX12_lines_6 rfl ?_
  exact s_callV (as := [zI l1]) (st := []) (o := 98) dX12_lines_7 kX12_408 rfl ⟨12, 87, TX12, e98, rfl, by decide⟩ rfl rfl (Nat.le_of_ble_eq_true rfl) hS (show fr - 1 + 1 ≤ fr by omega) (Nat.zero_le _) (Nat.zero_le _) (fun v n' h' hP _ => by obtain ⟨x, e, rfl, hR⟩ := hP; cases e; exact kk x h' hR) (fun E n' h' _ z => (rI_nt _ _ _ z).elim)
theorem bX12_lines_10 {fr M1 M2 b1 b2 : Nat} {Q : RS → Nat → AH → Prop} {h : AH} {l1 l2 s0 : Int} {x3 x4 : AV}  (r1 : -2147483648 ≤ s0 ∧ s0 < 2147483648 := by omega) (kt : s0 = 0 → Wp mX12_lines (kR fr M1 M2) Q (b1, b2) 27 [zR 98, zI l1, zI l2, none, none] [] 137 h) (kf : ¬ s0 = 0 → Wp mX12_lines (kR fr M1 M2) Q (b1, b2) 13 [zR 98, zI l1, zI l2, none, none] [] 137 h) : Wp mX12_lines (kR fr M1 M2) Q (b1, b2) 10 [zR 98, zI l1, zI l2, x3, x4] [zI s0] 137 h := by
  refine s_fgt (fgt_c (fgt_c (fgt_c (fgt_n _ (fgt_n _ fgt_0))))) ?_
  exact s_if_eq (tgt := 27) dX12_lines_10 (by decide) r1 kt kf
theorem bX12_lines_13 {fr M1 M2 b1 b2 : Nat} {Q : RS → Nat → AH → Prop} {h : AH} {l1 l2 : Int} {x3 x4 : AV} {R : Int → AH → Prop}   (hS : Sp mX12_within true (fr - 1) 0 0 [zI l2, zI 0, zI 4] 137 h (rI R)) (hf : 1 ≤ fr := by omega) (kk : ∀ (x : Int) (h' : AH), R x h' → Wp mX12_lines (kR fr M1 M2) Q (b1, b2) 20 [zR 98, zI l1, zI l2, none, none] [zI x, zR 98] 137 h') : Wp mX12_lines (kR fr M1 M2) Q (b1, b2) 13 [zR 98, zI l1, zI l2, x3, x4] [] 137 h := by
  refine s_fgt (fgt_c (fgt_c (fgt_c (fgt_n _ (fgt_n _ fgt_0))))) ?_
  refine s_aload_n (x := 98) dX12_lines_13 rfl ?_
  refine s_iload_n (x := l2) dX12_lines_14 rfl ?_
  refine s_iconst dX12_lines_15 ?_
  refine s_iconst dX12_lines_16 ?_
  exact s_callS (as := [zI l2, zI 0, zI 4]) (st := [zR 98]) dX12_lines_17 kX12_301 rfl rfl (Nat.le_of_ble_eq_true rfl) hS (show fr - 1 + 1 ≤ fr by omega) (Nat.zero_le _) (Nat.zero_le _) (fun v n' h' hP _ => by obtain ⟨x, e, rfl, hR⟩ := hP; cases e; exact kk x h' hR) (fun E n' h' _ z => (rI_nt _ _ _ z).elim)
theorem bX12_lines_20 {fr M1 M2 b1 b2 : Nat} {Q : RS → Nat → AH → Prop} {h : AH} {l1 l2 s0 : Int} {x3 x4 : AV} {R : Int → AH → Prop}   (hS : Sp mX12_right true (fr - 1) 0 0 [zR 98, zI s0, zI 1] 137 h (rI R)) (hf : 1 ≤ fr := by omega) (kk : ∀ (x : Int) (h' : AH), R x h' → Wp mX12_lines (kR fr M1 M2) Q (b1, b2) 24 [zR 98, zI l1, zI l2, none, none] [zI x] 137 h') : Wp mX12_lines (kR fr M1 M2) Q (b1, b2) 20 [zR 98, zI l1, zI l2, x3, x4] [zI s0, zR 98] 137 h := by
  refine s_fgt (fgt_c (fgt_c (fgt_c (fgt_n _ (fgt_n _ fgt_0))))) ?_
  refine s_iconst dX12_lines_20 ?_
  exact s_callV (as := [zI s0, zI 1]) (st := []) (o := 98) dX12_lines_21 kX12_260 rfl ⟨12, 87, TX12, e98, rfl, by decide⟩ rfl rfl (Nat.le_of_ble_eq_true rfl) hS (show fr - 1 + 1 ≤ fr by omega) (Nat.zero_le _) (Nat.zero_le _) (fun v n' h' hP _ => by obtain ⟨x, e, rfl, hR⟩ := hP; cases e; exact kk x h' hR) (fun E n' h' _ z => (rI_nt _ _ _ z).elim)
theorem bX12_lines_24 {fr M1 M2 b1 b2 : Nat} {Q : RS → Nat → AH → Prop} {h : AH} {l1 l2 s0 : Int} {x3 x4 : AV}  (r1 : -2147483648 ≤ s0 ∧ s0 < 2147483648 := by omega) (kt : ¬ s0 = 0 → Wp mX12_lines (kR fr M1 M2) Q (b1, b2) 29 [zR 98, zI l1, zI l2, none, none] [] 137 h) (kf : s0 = 0 → Wp mX12_lines (kR fr M1 M2) Q (b1, b2) 27 [zR 98, zI l1, zI l2, none, none] [] 137 h) : Wp mX12_lines (kR fr M1 M2) Q (b1, b2) 24 [zR 98, zI l1, zI l2, x3, x4] [zI s0] 137 h := by
  refine s_fgt (fgt_c (fgt_c (fgt_c (fgt_n _ (fgt_n _ fgt_0))))) ?_
  exact s_if_ne (tgt := 29) dX12_lines_24 (by decide) r1 kt kf
theorem bX12_lines_27 {fr M1 M2 b1 b2 : Nat} {Q : RS → Nat → AH → Prop} {h : AH} {x0 x1 x2 x3 x4 : AV}   (hq : Q (.inl (some (zI 0))) 137 h) : Wp mX12_lines (kR fr M1 M2) Q (b1, b2) 27 [x0, x1, x2, x3, x4] [] 137 h := by
  refine s_fgt (fgt_n _ (fgt_n _ (fgt_n _ (fgt_n _ (fgt_n _ fgt_0))))) ?_
  refine s_iconst dX12_lines_27 ?_
  exact s_ireturn dX12_lines_28 ⟨.int, rfl, rfl⟩ hq (fun z => by cases z)
theorem bX12_lines_29 {fr M1 M2 b1 b2 : Nat} {Q : RS → Nat → AH → Prop} {h : AH} {l1 l2 : Int} {x3 x4 : AV} {R : AH → Prop}   (hS : Sp mX12_goesThrough true (fr - 1) 0 0 [zR 98, zI l1] 137 h (rV R)) (hf : 1 ≤ fr := by omega) (kk : ∀ h' : AH, R h' → Wp mX12_lines (kR fr M1 M2) Q (b1, b2) 34 [zR 98, zI l1, zI l2, none, none] [] 137 h') : Wp mX12_lines (kR fr M1 M2) Q (b1, b2) 29 [zR 98, zI l1, zI l2, x3, x4] [] 137 h := by
  refine s_fgt (fgt_c (fgt_c (fgt_c (fgt_n _ (fgt_n _ fgt_0))))) ?_
  refine s_aload_n (x := 98) dX12_lines_29 rfl ?_
  refine s_iload_n (x := l1) dX12_lines_30 rfl ?_
  exact s_callV (as := [zI l1]) (st := []) (o := 98) dX12_lines_31 kX12_411 rfl ⟨12, 87, TX12, e98, rfl, by decide⟩ rfl rfl (Nat.le_of_ble_eq_true rfl) hS (show fr - 1 + 1 ≤ fr by omega) (Nat.zero_le _) (Nat.zero_le _) (fun v n' h' hP _ => by obtain ⟨e, rfl, hR⟩ := hP; cases e; exact kk h' hR) (fun E n' h' _ z => (rV_nt _ _ _ z).elim)
theorem bX12_lines_34 {fr M1 M2 b1 b2 : Nat} {Q : RS → Nat → AH → Prop} {h : AH} {l2 : Int} {x1 x3 x4 : AV}   (kk : Wp mX12_lines (kR fr M1 M2) Q (b1, b2) 39 [zR 98, none, zI l2, zI 0, zI 0] [] 137 h) : Wp mX12_lines (kR fr M1 M2) Q (b1, b2) 34 [zR 98, x1, zI l2, x3, x4] [] 137 h := by
  refine s_fgt (fgt_c (fgt_n _ (fgt_c (fgt_n _ (fgt_n _ fgt_0))))) ?_
  refine s_iconst dX12_lines_34 ?_
  refine s_istore_n dX12_lines_35 rfl (by decide) ?_
  refine s_iconst dX12_lines_36 ?_
  refine s_istore dX12_lines_37 rfl (by decide) ?_
  exact kk
theorem bX12_lines_39 {fr M1 M2 b1 b2 : Nat} {Q : RS → Nat → AH → Prop} {h : AH} {l2 l3 l4 : Int} {x1 : AV}  (r1 : -2147483648 ≤ l4 ∧ l4 < 2147483648 := by omega) (r2 : -2147483648 ≤ h 98 4 ∧ h 98 4 < 2147483648 := by omega) (kt : h 98 4 ≤ l4 → Wp mX12_lines (kR fr M1 M2) Q (b1, b2) 67 [zR 98, none, zI l2, zI l3, zI l4] [] 137 h) (kf : l4 < h 98 4 → Wp mX12_lines (kR fr M1 M2) Q (b1, b2) 48 [zR 98, none, zI l2, zI l3, zI l4] [] 137 h) : Wp mX12_lines (kR fr M1 M2) Q (b1, b2) 39 [zR 98, x1, zI l2, zI l3, zI l4] [] 137 h := by
  refine s_fgt (fgt_c (fgt_n _ (fgt_c (fgt_c (fgt_c fgt_0))))) ?_
  refine s_iload (x := l4) dX12_lines_39 rfl ?_
  refine s_aload_n (x := 98) dX12_lines_41 rfl ?_
  refine s_get (c := 98) dX12_lines_42 lX12_276 e98 (by decide) ?_
  exact s_icmp_ge (tgt := 67) dX12_lines_45 (by decide) r1 r2 kt kf
theorem bX12_lines_48 {fr M1 M2 b1 b2 : Nat} {Q : RS → Nat → AH → Prop} {h : AH} {l2 l3 l4 : Int} {x1 : AV} {R : Int → AH → Prop}  (r1 : 0 ≤ l4 ∧ l4 < 6 := by omega) (hS : Sp mX12_bits true (fr - 1) 0 0 [zI (h 122 l4)] 137 h (rI R)) (hf : 1 ≤ fr := by omega) (kk : ∀ (x : Int) (h' : AH), R x h' → Wp mX12_lines (kR fr M1 M2) Q (b1, b2) 59 [zR 98, none, zI l2, zI l3, zI l4] [zI x, zI l3] 137 h') : Wp mX12_lines (kR fr M1 M2) Q (b1, b2) 48 [zR 98, x1, zI l2, zI l3, zI l4] [] 137 h := by
  refine s_fgt (fgt_c (fgt_n _ (fgt_c (fgt_c (fgt_c fgt_0))))) ?_
  refine s_iload_n (x := l3) dX12_lines_48 rfl ?_
  refine s_aload_n (x := 98) dX12_lines_49 rfl ?_
  refine s_getFd (c := 98) (d := 122) dX12_lines_50 lX12_89 e98 (Or.inl rfl) (by decide) (by decide) ?_
  refine s_iload (x := l4) dX12_lines_53 rfl ?_
  refine s_iald (c := 122) (i := l4) dX12_lines_55 e122 r1.1 r1.2 ?_
  exact s_callS (as := [zI (h 122 l4)]) (st := [zI l3]) dX12_lines_56 kX12_414 rfl rfl (Nat.le_of_ble_eq_true rfl) hS (show fr - 1 + 1 ≤ fr by omega) (Nat.zero_le _) (Nat.zero_le _) (fun v n' h' hP _ => by obtain ⟨x, e, rfl, hR⟩ := hP; cases e; exact kk x h' hR) (fun E n' h' _ z => (rI_nt _ _ _ z).elim)
theorem bX12_lines_59 {fr M1 M2 b1 b2 : Nat} {Q : RS → Nat → AH → Prop} {h : AH} {l2 l4 s1 s0 : Int} {x1 x3 : AV}   (kk : Wp mX12_lines (kR fr M1 M2) Q (b1, b2) 39 [zR 98, none, zI l2, zI (s1 + s0), zI (l4 + 1)] [] 137 h) : Wp mX12_lines (kR fr M1 M2) Q (b1, b2) 59 [zR 98, x1, zI l2, x3, zI l4] [zI s0, zI s1] 137 h := by
  refine s_fgt (fgt_c (fgt_n _ (fgt_c (fgt_n _ (fgt_c fgt_0))))) ?_
  refine s_iadd dX12_lines_59 ?_
  refine s_istore_n dX12_lines_60 rfl (by decide) ?_
  refine s_iinc (x := l4) dX12_lines_61 rfl rfl (by decide) ?_
  exact s_goto (tgt := 39) dX12_lines_64 (by decide) kk
theorem bX12_lines_67 {fr M1 M2 b1 b2 : Nat} {Q : RS → Nat → AH → Prop} {h : AH} {l2 l3 : Int} {x1 x4 : AV}  (r1 : -2147483648 ≤ l2 ∧ l2 < 2147483648 := by omega) (kt : ¬ l2 = 0 → Wp mX12_lines (kR fr M1 M2) Q (b1, b2) 78 [zR 98, none, zI l2, zI l3, none] [] 137 h) (kf : l2 = 0 → Wp mX12_lines (kR fr M1 M2) Q (b1, b2) 71 [zR 98, none, zI l2, zI l3, none] [] 137 h) : Wp mX12_lines (kR fr M1 M2) Q (b1, b2) 67 [zR 98, x1, zI l2, zI l3, x4] [] 137 h := by
  refine s_fgt (fgt_c (fgt_n _ (fgt_c (fgt_c (fgt_n _ fgt_0))))) ?_
  refine s_iload_n (x := l2) dX12_lines_67 rfl ?_
  exact s_if_ne (tgt := 78) dX12_lines_68 (by decide) r1 kt kf
theorem bX12_lines_71 {fr M1 M2 b1 b2 : Nat} {Q : RS → Nat → AH → Prop} {h : AH} {x1 x2 x3 x4 : AV}   (kk : Wp mX12_lines (kR fr M1 M2) Q (b1, b2) 120 [zR 98, none, none, none, none] [zI (h 98 59)] 137 h) : Wp mX12_lines (kR fr M1 M2) Q (b1, b2) 71 [zR 98, x1, x2, x3, x4] [] 137 h := by
  refine s_fgt (fgt_c (fgt_n _ (fgt_n _ (fgt_n _ (fgt_n _ fgt_0))))) ?_
  refine s_aload_n (x := 98) dX12_lines_71 rfl ?_
  refine s_get (c := 98) dX12_lines_72 lX12_381 e98 (by decide) ?_
  exact s_goto (tgt := 120) dX12_lines_75 (by decide) kk
theorem bX12_lines_78 {fr M1 M2 b1 b2 : Nat} {Q : RS → Nat → AH → Prop} {h : AH} {l2 l3 : Int} {x1 x4 : AV}  (r1 : -2147483648 ≤ l2 ∧ l2 < 2147483648 := by omega) (kt : ¬ l2 = 1 → Wp mX12_lines (kR fr M1 M2) Q (b1, b2) 90 [zR 98, none, zI l2, zI l3, none] [] 137 h) (kf : l2 = 1 → Wp mX12_lines (kR fr M1 M2) Q (b1, b2) 83 [zR 98, none, zI l2, zI l3, none] [] 137 h) : Wp mX12_lines (kR fr M1 M2) Q (b1, b2) 78 [zR 98, x1, zI l2, zI l3, x4] [] 137 h := by
  refine s_fgt (fgt_c (fgt_n _ (fgt_c (fgt_c (fgt_n _ fgt_0))))) ?_
  refine s_iload_n (x := l2) dX12_lines_78 rfl ?_
  refine s_iconst dX12_lines_79 ?_
  exact s_icmp_ne (tgt := 90) dX12_lines_80 (by decide) r1 ⟨by decide, by decide⟩ kt kf
theorem bX12_lines_83 {fr M1 M2 b1 b2 : Nat} {Q : RS → Nat → AH → Prop} {h : AH} {x1 x2 x3 x4 : AV}   (kk : Wp mX12_lines (kR fr M1 M2) Q (b1, b2) 120 [zR 98, none, none, none, none] [zI (h 98 60)] 137 h) : Wp mX12_lines (kR fr M1 M2) Q (b1, b2) 83 [zR 98, x1, x2, x3, x4] [] 137 h := by
  refine s_fgt (fgt_c (fgt_n _ (fgt_n _ (fgt_n _ (fgt_n _ fgt_0))))) ?_
  refine s_aload_n (x := 98) dX12_lines_83 rfl ?_
  refine s_get (c := 98) dX12_lines_84 lX12_384 e98 (by decide) ?_
  exact s_goto (tgt := 120) dX12_lines_87 (by decide) kk
theorem bX12_lines_90 {fr M1 M2 b1 b2 : Nat} {Q : RS → Nat → AH → Prop} {h : AH} {l2 l3 : Int} {x1 x4 : AV}  (r1 : -2147483648 ≤ l2 ∧ l2 < 2147483648 := by omega) (kt : ¬ l2 = 2 → Wp mX12_lines (kR fr M1 M2) Q (b1, b2) 102 [zR 98, none, zI l2, zI l3, none] [] 137 h) (kf : l2 = 2 → Wp mX12_lines (kR fr M1 M2) Q (b1, b2) 95 [zR 98, none, zI l2, zI l3, none] [] 137 h) : Wp mX12_lines (kR fr M1 M2) Q (b1, b2) 90 [zR 98, x1, zI l2, zI l3, x4] [] 137 h := by
  refine s_fgt (fgt_c (fgt_n _ (fgt_c (fgt_c (fgt_n _ fgt_0))))) ?_
  refine s_iload_n (x := l2) dX12_lines_90 rfl ?_
  refine s_iconst dX12_lines_91 ?_
  exact s_icmp_ne (tgt := 102) dX12_lines_92 (by decide) r1 ⟨by decide, by decide⟩ kt kf
theorem bX12_lines_95 {fr M1 M2 b1 b2 : Nat} {Q : RS → Nat → AH → Prop} {h : AH} {x1 x2 x3 x4 : AV}   (kk : Wp mX12_lines (kR fr M1 M2) Q (b1, b2) 120 [zR 98, none, none, none, none] [zI (h 98 61)] 137 h) : Wp mX12_lines (kR fr M1 M2) Q (b1, b2) 95 [zR 98, x1, x2, x3, x4] [] 137 h := by
  refine s_fgt (fgt_c (fgt_n _ (fgt_n _ (fgt_n _ (fgt_n _ fgt_0))))) ?_
  refine s_aload_n (x := 98) dX12_lines_95 rfl ?_
  refine s_get (c := 98) dX12_lines_96 lX12_387 e98 (by decide) ?_
  exact s_goto (tgt := 120) dX12_lines_99 (by decide) kk
theorem bX12_lines_102 {fr M1 M2 b1 b2 : Nat} {Q : RS → Nat → AH → Prop} {h : AH} {l2 l3 : Int} {x1 x4 : AV}  (r1 : -2147483648 ≤ l2 ∧ l2 < 2147483648 := by omega) (kt : ¬ l2 = 3 → Wp mX12_lines (kR fr M1 M2) Q (b1, b2) 116 [zR 98, none, zI l2, zI l3, none] [] 137 h) (kf : l2 = 3 → Wp mX12_lines (kR fr M1 M2) Q (b1, b2) 107 [zR 98, none, zI l2, zI l3, none] [] 137 h) : Wp mX12_lines (kR fr M1 M2) Q (b1, b2) 102 [zR 98, x1, zI l2, zI l3, x4] [] 137 h := by
  refine s_fgt (fgt_c (fgt_n _ (fgt_c (fgt_c (fgt_n _ fgt_0))))) ?_
  refine s_iload_n (x := l2) dX12_lines_102 rfl ?_
  refine s_iconst dX12_lines_103 ?_
  exact s_icmp_ne (tgt := 116) dX12_lines_104 (by decide) r1 ⟨by decide, by decide⟩ kt kf
theorem bX12_lines_107 {fr M1 M2 b1 b2 : Nat} {Q : RS → Nat → AH → Prop} {h : AH} {l3 : Int} {x1 x2 x4 : AV}   (kk : Wp mX12_lines (kR fr M1 M2) Q (b1, b2) 120 [zR 98, none, none, zI l3, none] [zI ((h 98 63) - l3)] 137 h) : Wp mX12_lines (kR fr M1 M2) Q (b1, b2) 107 [zR 98, x1, x2, zI l3, x4] [] 137 h := by
  refine s_fgt (fgt_c (fgt_n _ (fgt_n _ (fgt_c (fgt_n _ fgt_0))))) ?_
  refine s_aload_n (x := 98) dX12_lines_107 rfl ?_
  refine s_get (c := 98) dX12_lines_108 lX12_390 e98 (by decide) ?_
  refine s_iload_n (x := l3) dX12_lines_111 rfl ?_
  refine s_isub dX12_lines_112 ?_
  exact s_goto (tgt := 120) dX12_lines_113 (by decide) kk
theorem bX12_lines_116 {fr M1 M2 b1 b2 : Nat} {Q : RS → Nat → AH → Prop} {h : AH} {x1 x2 x3 x4 : AV}   (kk : Wp mX12_lines (kR fr M1 M2) Q (b1, b2) 120 [zR 98, none, none, none, none] [zI (h 98 63)] 137 h) : Wp mX12_lines (kR fr M1 M2) Q (b1, b2) 116 [zR 98, x1, x2, x3, x4] [] 137 h := by
  refine s_fgt (fgt_c (fgt_n _ (fgt_n _ (fgt_n _ (fgt_n _ fgt_0))))) ?_
  refine s_aload_n (x := 98) dX12_lines_116 rfl ?_
  refine s_get (c := 98) dX12_lines_117 lX12_390 e98 (by decide) ?_
  exact kk
theorem bX12_lines_120 {fr M1 M2 b1 b2 : Nat} {Q : RS → Nat → AH → Prop} {h : AH} {s0 : Int} {x0 x1 x2 x3 x4 : AV}   (hq : Q (.inl (some (zI s0))) 137 h) : Wp mX12_lines (kR fr M1 M2) Q (b1, b2) 120 [x0, x1, x2, x3, x4] [zI s0] 137 h := by
  refine s_fgt (fgt_n _ (fgt_n _ (fgt_n _ (fgt_n _ (fgt_n _ fgt_0))))) ?_
  exact s_ireturn dX12_lines_120 ⟨.int, rfl, rfl⟩ hq (fun z => by cases z)
