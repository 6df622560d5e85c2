theorem dX1_compare_0 : decode mX1_compare.cd 0 = .ok (.aload_n 0, 1) := by decide +kernel
theorem dX1_compare_1 : decode mX1_compare.cd 1 = .ok (.getfield 9, 3) := by decide +kernel
theorem dX1_compare_4 : decode mX1_compare.cd 4 = .ok (.iconst 0, 1) := by decide +kernel
theorem dX1_compare_5 : decode mX1_compare.cd 5 = .ok (.invokestatic 18, 3) := by decide +kernel
theorem dX1_compare_8 : decode mX1_compare.cd 8 = .ok (.aload_n 0, 1) := by decide +kernel
theorem dX1_compare_9 : decode mX1_compare.cd 9 = .ok (.getfield 15, 3) := by decide +kernel
theorem dX1_compare_12 : decode mX1_compare.cd 12 = .ok (.iconst 0, 1) := by decide +kernel
theorem dX1_compare_13 : decode mX1_compare.cd 13 = .ok (.invokestatic 18, 3) := by decide +kernel
theorem dX1_compare_16 : decode mX1_compare.cd 16 = .ok (.aload_n 0, 1) := by decide +kernel
theorem dX1_compare_17 : decode mX1_compare.cd 17 = .ok (.getfield 15, 3) := by decide +kernel
theorem dX1_compare_20 : decode mX1_compare.cd 20 = .ok (.iconst 0, 1) := by decide +kernel
theorem dX1_compare_21 : decode mX1_compare.cd 21 = .ok (.iconst 1, 1) := by decide +kernel
theorem dX1_compare_22 : decode mX1_compare.cd 22 = .ok (.iload 4, 2) := by decide +kernel
theorem dX1_compare_24 : decode mX1_compare.cd 24 = .ok (.ishl, 1) := by decide +kernel
theorem dX1_compare_25 : decode mX1_compare.cd 25 = .ok (.iastore, 1) := by decide +kernel
theorem dX1_compare_26 : decode mX1_compare.cd 26 = .ok (.iconst 0, 1) := by decide +kernel
theorem dX1_compare_27 : decode mX1_compare.cd 27 = .ok (.istore 5, 2) := by decide +kernel
theorem dX1_compare_29 : decode mX1_compare.cd 29 = .ok (.iload 5, 2) := by decide +kernel
theorem dX1_compare_31 : decode mX1_compare.cd 31 = .ok (.bipush 16, 2) := by decide +kernel
theorem dX1_compare_33 : decode mX1_compare.cd 33 = .ok (.if_icmp .ge 108, 3) := by decide +kernel
theorem dX1_compare_36 : decode mX1_compare.cd 36 = .ok (.iload 5, 2) := by decide +kernel
theorem dX1_compare_38 : decode mX1_compare.cd 38 = .ok (.iconst 2, 1) := by decide +kernel
theorem dX1_compare_39 : decode mX1_compare.cd 39 = .ok (.iadd, 1) := by decide +kernel
theorem dX1_compare_40 : decode mX1_compare.cd 40 = .ok (.istore 6, 2) := by decide +kernel
theorem dX1_compare_42 : decode mX1_compare.cd 42 = .ok (.aload_n 0, 1) := by decide +kernel
theorem dX1_compare_43 : decode mX1_compare.cd 43 = .ok (.getfield 15, 3) := by decide +kernel
theorem dX1_compare_46 : decode mX1_compare.cd 46 = .ok (.iload 6, 2) := by decide +kernel
theorem dX1_compare_48 : decode mX1_compare.cd 48 = .ok (.iconst 1, 1) := by decide +kernel
theorem dX1_compare_49 : decode mX1_compare.cd 49 = .ok (.iload 4, 2) := by decide +kernel
theorem dX1_compare_51 : decode mX1_compare.cd 51 = .ok (.ishl, 1) := by decide +kernel
theorem dX1_compare_52 : decode mX1_compare.cd 52 = .ok (.iastore, 1) := by decide +kernel
theorem dX1_compare_53 : decode mX1_compare.cd 53 = .ok (.aload_n 2, 1) := by decide +kernel
theorem dX1_compare_54 : decode mX1_compare.cd 54 = .ok (.aload_n 1, 1) := by decide +kernel
theorem dX1_compare_55 : decode mX1_compare.cd 55 = .ok (.aload_n 3, 1) := by decide +kernel
theorem dX1_compare_56 : decode mX1_compare.cd 56 = .ok (.aload_n 0, 1) := by decide +kernel
theorem dX1_compare_57 : decode mX1_compare.cd 57 = .ok (.getfield 15, 3) := by decide +kernel
theorem dX1_compare_60 : decode mX1_compare.cd 60 = .ok (.iload 6, 2) := by decide +kernel
theorem dX1_compare_62 : decode mX1_compare.cd 62 = .ok (.invokevirtual 24, 3) := by decide +kernel
theorem dX1_compare_65 : decode mX1_compare.cd 65 = .ok (.aload_n 0, 1) := by decide +kernel
theorem dX1_compare_66 : decode mX1_compare.cd 66 = .ok (.aload_n 2, 1) := by decide +kernel
theorem dX1_compare_67 : decode mX1_compare.cd 67 = .ok (.invokevirtual 30, 3) := by decide +kernel
theorem dX1_compare_70 : decode mX1_compare.cd 70 = .ok (.iconst 1, 1) := by decide +kernel
theorem dX1_compare_71 : decode mX1_compare.cd 71 = .ok (.iload 5, 2) := by decide +kernel
theorem dX1_compare_73 : decode mX1_compare.cd 73 = .ok (.ishl, 1) := by decide +kernel
theorem dX1_compare_74 : decode mX1_compare.cd 74 = .ok (.iconst (-1), 1) := by decide +kernel
theorem dX1_compare_75 : decode mX1_compare.cd 75 = .ok (.ixor, 1) := by decide +kernel
theorem dX1_compare_76 : decode mX1_compare.cd 76 = .ok (.iand, 1) := by decide +kernel
theorem dX1_compare_77 : decode mX1_compare.cd 77 = .ok (.istore 7, 2) := by decide +kernel
theorem dX1_compare_79 : decode mX1_compare.cd 79 = .ok (.aload_n 0, 1) := by decide +kernel
theorem dX1_compare_80 : decode mX1_compare.cd 80 = .ok (.getfield 15, 3) := by decide +kernel
theorem dX1_compare_83 : decode mX1_compare.cd 83 = .ok (.iload 6, 2) := by decide +kernel
theorem dX1_compare_85 : decode mX1_compare.cd 85 = .ok (.iconst 0, 1) := by decide +kernel
theorem dX1_compare_86 : decode mX1_compare.cd 86 = .ok (.iastore, 1) := by decide +kernel
theorem dX1_compare_87 : decode mX1_compare.cd 87 = .ok (.aload_n 0, 1) := by decide +kernel
theorem dX1_compare_88 : decode mX1_compare.cd 88 = .ok (.getfield 9, 3) := by decide +kernel
theorem dX1_compare_91 : decode mX1_compare.cd 91 = .ok (.iload 5, 2) := by decide +kernel
theorem dX1_compare_93 : decode mX1_compare.cd 93 = .ok (.dup2, 1) := by decide +kernel
theorem dX1_compare_94 : decode mX1_compare.cd 94 = .ok (.iaload, 1) := by decide +kernel
theorem dX1_compare_95 : decode mX1_compare.cd 95 = .ok (.iload 7, 2) := by decide +kernel
theorem dX1_compare_97 : decode mX1_compare.cd 97 = .ok (.ior, 1) := by decide +kernel
theorem dX1_compare_98 : decode mX1_compare.cd 98 = .ok (.iastore, 1) := by decide +kernel
theorem dX1_compare_99 : decode mX1_compare.cd 99 = .ok (.iconst 0, 1) := by decide +kernel
theorem dX1_compare_100 : decode mX1_compare.cd 100 = .ok (.istore 8, 2) := by decide +kernel
theorem dX1_compare_102 : decode mX1_compare.cd 102 = .ok (.iload 8, 2) := by decide +kernel
theorem dX1_compare_104 : decode mX1_compare.cd 104 = .ok (.bipush 16, 2) := by decide +kernel
theorem dX1_compare_106 : decode mX1_compare.cd 106 = .ok (.if_icmp .ge 29, 3) := by decide +kernel
theorem dX1_compare_109 : decode mX1_compare.cd 109 = .ok (.aload_n 0, 1) := by decide +kernel
theorem dX1_compare_110 : decode mX1_compare.cd 110 = .ok (.getfield 9, 3) := by decide +kernel
theorem dX1_compare_113 : decode mX1_compare.cd 113 = .ok (.iload 8, 2) := by decide +kernel
theorem dX1_compare_115 : decode mX1_compare.cd 115 = .ok (.dup2, 1) := by decide +kernel
theorem dX1_compare_116 : decode mX1_compare.cd 116 = .ok (.iaload, 1) := by decide +kernel
theorem dX1_compare_117 : decode mX1_compare.cd 117 = .ok (.iload 7, 2) := by decide +kernel
theorem dX1_compare_119 : decode mX1_compare.cd 119 = .ok (.iload 8, 2) := by decide +kernel
theorem dX1_compare_121 : decode mX1_compare.cd 121 = .ok (.ishr, 1) := by decide +kernel
theorem dX1_compare_122 : decode mX1_compare.cd 122 = .ok (.iconst 1, 1) := by decide +kernel
theorem dX1_compare_123 : decode mX1_compare.cd 123 = .ok (.iand, 1) := by decide +kernel
theorem dX1_compare_124 : decode mX1_compare.cd 124 = .ok (.iload 5, 2) := by decide +kernel
theorem dX1_compare_126 : decode mX1_compare.cd 126 = .ok (.ishl, 1) := by decide +kernel
theorem dX1_compare_127 : decode mX1_compare.cd 127 = .ok (.ior, 1) := by decide +kernel
theorem dX1_compare_128 : decode mX1_compare.cd 128 = .ok (.iastore, 1) := by decide +kernel
theorem dX1_compare_129 : decode mX1_compare.cd 129 = .ok (.iinc 8 1, 3) := by decide +kernel
theorem dX1_compare_132 : decode mX1_compare.cd 132 = .ok (.goto (-30), 3) := by decide +kernel
theorem dX1_compare_135 : decode mX1_compare.cd 135 = .ok (.iinc 5 1, 3) := by decide +kernel
theorem dX1_compare_138 : decode mX1_compare.cd 138 = .ok (.goto (-109), 3) := by decide +kernel
theorem dX1_compare_141 : decode mX1_compare.cd 141 = .ok (.return_, 1) := by decide +kernel
theorem bX1_compare_0 {fr M1 M2 b1 b2 : Nat} {Q : RS → Nat → AH → Prop} {h : AH} {l1 l3 l4 : Int} {x5 x6 x7 x8 : AV} {R : AH → Prop}   (hS : Sp mJ7_fill_53178 true (fr - 1) 0 0 [zR 96, zI 0] 137 h (rV R)) (hf : 1 ≤ fr := by omega) (kk : ∀ h' : AH, R h' → Wp mX1_compare (kR fr M1 M2) Q (b1, b2) 8 [zR 95, zR l1, zR 51, zR l3, zI l4, none, none, none, none] [] 137 h') : Wp mX1_compare (kR fr M1 M2) Q (b1, b2) 0 [zR 95, zR l1, zR 51, zR l3, zI l4, x5, x6, x7, x8] [] 137 h := by
  refine s_fgt (fgt_c (fgt_c (fgt_c (fgt_c (fgt_c (fgt_n _ (fgt_n _ (fgt_n _ (fgt_n _ fgt_0))))))))) ?_
  refine s_aload_n (x := 95) dX1_compare_0 rfl ?_
  refine s_getFd (c := 95) (d := 96) dX1_compare_1 lX1_9 e95 (Or.inl rfl) (by decide) (by decide) ?_
  refine s_iconst dX1_compare_4 ?_
  exact s_callS (as := [zR 96, zI 0]) (st := []) dX1_compare_5 kX1_18 rfl rfl (Nat.le_of_ble_eq_true rfl) hS (show fr - 1 + 1 ≤ fr by omega) (Nat.zero_le _) (Nat.zero_le _) (fun v n' h' hP _ => by obtain ⟨e, rfl, hR⟩ := hP; cases e; exact kk h' hR) (fun E n' h' _ z => (rV_nt _ _ _ z).elim)
theorem bX1_compare_8 {fr M1 M2 b1 b2 : Nat} {Q : RS → Nat → AH → Prop} {h : AH} {l1 l3 l4 : Int} {x5 x6 x7 x8 : AV} {R : AH → Prop}   (hS : Sp mJ7_fill_53178 true (fr - 1) 0 0 [zR 97, zI 0] 137 h (rV R)) (hf : 1 ≤ fr := by omega) (kk : ∀ h' : AH, R h' → Wp mX1_compare (kR fr M1 M2) Q (b1, b2) 16 [zR 95, zR l1, zR 51, zR l3, zI l4, none, none, none, none] [] 137 h') : Wp mX1_compare (kR fr M1 M2) Q (b1, b2) 8 [zR 95, zR l1, zR 51, zR l3, zI l4, x5, x6, x7, x8] [] 137 h := by
  refine s_fgt (fgt_c (fgt_c (fgt_c (fgt_c (fgt_c (fgt_n _ (fgt_n _ (fgt_n _ (fgt_n _ fgt_0))))))))) ?_
  refine s_aload_n (x := 95) dX1_compare_8 rfl ?_
  refine s_getFd (c := 95) (d := 97) dX1_compare_9 lX1_15 e95 (Or.inl rfl) (by decide) (by decide) ?_
  refine s_iconst dX1_compare_12 ?_
  exact s_callS (as := [zR 97, zI 0]) (st := []) dX1_compare_13 kX1_18 rfl rfl (Nat.le_of_ble_eq_true rfl) hS (show fr - 1 + 1 ≤ fr by omega) (Nat.zero_le _) (Nat.zero_le _) (fun v n' h' hP _ => by obtain ⟨e, rfl, hR⟩ := hP; cases e; exact kk h' hR) (fun E n' h' _ z => (rV_nt _ _ _ z).elim)
theorem bX1_compare_16 {fr M1 M2 b1 b2 : Nat} {Q : RS → Nat → AH → Prop} {h : AH} {l1 l3 l4 : Int} {x5 x6 x7 x8 : AV}  (r1 : 0 ≤ l4 ∧ l4 < 32 := by omega) (kk : Wp mX1_compare (kR fr M1 M2) Q (b1, b2) 29 [zR 95, zR l1, zR 51, zR l3, zI l4, zI 0, none, none, none] [] 137 (up h 97 0 (1 * 2 ^ l4.toNat))) : Wp mX1_compare (kR fr M1 M2) Q (b1, b2) 16 [zR 95, zR l1, zR 51, zR l3, zI l4, x5, x6, x7, x8] [] 137 h := by
  refine s_fgt (fgt_c (fgt_c (fgt_c (fgt_c (fgt_c (fgt_n _ (fgt_n _ (fgt_n _ (fgt_n _ fgt_0))))))))) ?_
  refine s_aload_n (x := 95) dX1_compare_16 rfl ?_
  refine s_getFd (c := 95) (d := 97) dX1_compare_17 lX1_15 e95 (Or.inl rfl) (by decide) (by decide) ?_
  refine s_iconst dX1_compare_20 ?_
  refine s_iconst dX1_compare_21 ?_
  refine s_iload (x := l4) dX1_compare_22 rfl ?_
  refine s_ishlN dX1_compare_24 r1.1 r1.2 ?_
  refine s_iast (c := 97) (i := 0) dX1_compare_25 e97 (by decide) (by decide) ?_
  refine s_iconst dX1_compare_26 ?_
  refine s_istore dX1_compare_27 rfl (by decide) ?_
  exact kk
theorem bX1_compare_29 {fr M1 M2 b1 b2 : Nat} {Q : RS → Nat → AH → Prop} {h : AH} {l1 l3 l4 l5 : Int} {x6 x7 x8 : AV}  (r1 : -2147483648 ≤ l5 ∧ l5 < 2147483648 := by omega) (kt : 16 ≤ l5 → Wp mX1_compare (kR fr M1 M2) Q (b1, b2) 141 [zR 95, zR l1, zR 51, zR l3, zI l4, zI l5, none, none, none] [] 137 h) (kf : l5 < 16 → Wp mX1_compare (kR fr M1 M2) Q (b1, b2) 36 [zR 95, zR l1, zR 51, zR l3, zI l4, zI l5, none, none, none] [] 137 h) : Wp mX1_compare (kR fr M1 M2) Q (b1, b2) 29 [zR 95, zR l1, zR 51, zR l3, zI l4, zI l5, x6, x7, x8] [] 137 h := by
  refine s_fgt (fgt_c (fgt_c (fgt_c (fgt_c (fgt_c (fgt_c (fgt_n _ (fgt_n _ (fgt_n _ fgt_0))))))))) ?_
  refine s_iload (x := l5) dX1_compare_29 rfl ?_
  refine s_bipush dX1_compare_31 (by decide) ?_
  exact s_icmp_ge (tgt := 141) dX1_compare_33 (by decide) r1 ⟨by decide, by decide⟩ kt kf
theorem bX1_compare_36 {fr M1 M2 b1 b2 : Nat} {Q : RS → Nat → AH → Prop} {h : AH} {l1 l3 l4 l5 : Int} {x6 x7 x8 : AV} {R : AH → Prop}  (r1 : 0 ≤ l4 ∧ l4 < 32 := by omega) (r2 : 0 ≤ l5 + 2 ∧ l5 + 2 < 18 := by omega) (hS : Sp mX4_attend true (fr - 1) 0 0 [zR 51, zR l1, zR l3, zR 97, zI (l5 + 2)] 137 (up h 97 (l5 + 2) (1 * 2 ^ l4.toNat)) (rV R)) (hf : 1 ≤ fr := by omega) (kk : ∀ h' : AH, R h' → Wp mX1_compare (kR fr M1 M2) Q (b1, b2) 65 [zR 95, zR l1, zR 51, zR l3, zI l4, zI l5, zI (l5 + 2), none, none] [] 137 h') : Wp mX1_compare (kR fr M1 M2) Q (b1, b2) 36 [zR 95, zR l1, zR 51, zR l3, zI l4, zI l5, x6, x7, x8] [] 137 h := by
  refine s_fgt (fgt_c (fgt_c (fgt_c (fgt_c (fgt_c (fgt_c (fgt_n _ (fgt_n _ (fgt_n _ fgt_0))))))))) ?_
  refine s_iload (x := l5) dX1_compare_36 rfl ?_
  refine s_iconst dX1_compare_38 ?_
  refine s_iadd dX1_compare_39 ?_
  refine s_istore dX1_compare_40 rfl (by decide) ?_
  refine s_aload_n (x := 95) dX1_compare_42 rfl ?_
  refine s_getFd (c := 95) (d := 97) dX1_compare_43 lX1_15 e95 (Or.inl rfl) (by decide) (by decide) ?_
  refine s_iload (x := l5 + 2) dX1_compare_46 rfl ?_
  refine s_iconst dX1_compare_48 ?_
  refine s_iload (x := l4) dX1_compare_49 rfl ?_
  refine s_ishlN dX1_compare_51 r1.1 r1.2 ?_
  refine s_iast (c := 97) (i := l5 + 2) dX1_compare_52 e97 r2.1 r2.2 ?_
  refine s_aload_n (x := 51) dX1_compare_53 rfl ?_
  refine s_aload_n (x := l1) dX1_compare_54 rfl ?_
  refine s_aload_n (x := l3) dX1_compare_55 rfl ?_
  refine s_aload_n (x := 95) dX1_compare_56 rfl ?_
  refine s_getFd (c := 95) (d := 97) dX1_compare_57 lX1_15 e95 (Or.inl rfl) (by decide) (by decide) ?_
  refine s_iload (x := l5 + 2) dX1_compare_60 rfl ?_
  exact s_callV (as := [zR l1, zR l3, zR 97, zI (l5 + 2)]) (st := []) (o := 51) dX1_compare_62 kX1_24 rfl ⟨4, 9, TX4, e51, rfl, by decide⟩ rfl rfl (Nat.le_of_ble_eq_true rfl) hS (show fr - 1 + 1 ≤ fr by omega) (Nat.zero_le _) (Nat.zero_le _) (fun v n' h' hP _ => by obtain ⟨e, rfl, hR⟩ := hP; cases e; exact kk h' hR) (fun E n' h' _ z => (rV_nt _ _ _ z).elim)
theorem bX1_compare_65 {fr M1 M2 b1 b2 : Nat} {Q : RS → Nat → AH → Prop} {h : AH} {l1 l3 l4 l5 l6 : Int} {x7 x8 : AV} {R : Int → AH → Prop}   (hS : Sp mX1_heardGaps true (fr - 1) 0 0 [zR 95, zR 51] 137 h (rI R)) (hf : 1 ≤ fr := by omega) (kk : ∀ (x : Int) (h' : AH), R x h' → Wp mX1_compare (kR fr M1 M2) Q (b1, b2) 70 [zR 95, zR l1, zR 51, zR l3, zI l4, zI l5, zI l6, none, none] [zI x] 137 h') : Wp mX1_compare (kR fr M1 M2) Q (b1, b2) 65 [zR 95, zR l1, zR 51, zR l3, zI l4, zI l5, zI l6, x7, x8] [] 137 h := by
  refine s_fgt (fgt_c (fgt_c (fgt_c (fgt_c (fgt_c (fgt_c (fgt_c (fgt_n _ (fgt_n _ fgt_0))))))))) ?_
  refine s_aload_n (x := 95) dX1_compare_65 rfl ?_
  refine s_aload_n (x := 51) dX1_compare_66 rfl ?_
  exact s_callV (as := [zR 51]) (st := []) (o := 95) dX1_compare_67 kX1_30 rfl ⟨1, 5, TX1, e95, rfl, by decide⟩ rfl rfl (Nat.le_of_ble_eq_true rfl) hS (show fr - 1 + 1 ≤ fr by omega) (Nat.zero_le _) (Nat.zero_le _) (fun v n' h' hP _ => by obtain ⟨x, e, rfl, hR⟩ := hP; cases e; exact kk x h' hR) (fun E n' h' _ z => (rI_nt _ _ _ z).elim)
theorem bX1_compare_70 {fr M1 M2 b1 b2 : Nat} {Q : RS → Nat → AH → Prop} {h : AH} {l1 l3 l4 l5 l6 s0 : Int} {x7 x8 : AV}  (r1 : 0 ≤ l5 ∧ l5 < 32 := by omega) (r2 : 0 ≤ l6 ∧ l6 < 18 := by omega) (r3 : 0 ≤ l5 ∧ l5 < 16 := by omega) (kk : Wp mX1_compare (kR fr M1 M2) Q (b1, b2) 102 [zR 95, zR l1, zR 51, zR l3, zI l4, zI l5, zI l6, zI (bAnd s0 (bXor (1 * 2 ^ l5.toNat) (-1))), zI 0] [] 137 (up (up h 97 l6 0) 96 l5 (bOr (h 96 l5) (bAnd s0 (bXor (1 * 2 ^ l5.toNat) (-1)))))) : Wp mX1_compare (kR fr M1 M2) Q (b1, b2) 70 [zR 95, zR l1, zR 51, zR l3, zI l4, zI l5, zI l6, x7, x8] [zI s0] 137 h := by
  refine s_fgt (fgt_c (fgt_c (fgt_c (fgt_c (fgt_c (fgt_c (fgt_c (fgt_n _ (fgt_n _ fgt_0))))))))) ?_
  refine s_iconst dX1_compare_70 ?_
  refine s_iload (x := l5) dX1_compare_71 rfl ?_
  refine s_ishlN dX1_compare_73 r1.1 r1.2 ?_
  refine s_iconst dX1_compare_74 ?_
  refine s_ixor dX1_compare_75 ?_
  refine s_iand dX1_compare_76 ?_
  refine s_istore dX1_compare_77 rfl (by decide) ?_
  refine s_aload_n (x := 95) dX1_compare_79 rfl ?_
  refine s_getFd (c := 95) (d := 97) dX1_compare_80 lX1_15 e95 (Or.inl rfl) (by decide) (by decide) ?_
  refine s_iload (x := l6) dX1_compare_83 rfl ?_
  refine s_iconst dX1_compare_85 ?_
  refine s_iast (c := 97) (i := l6) dX1_compare_86 e97 r2.1 r2.2 ?_
  refine s_aload_n (x := 95) dX1_compare_87 rfl ?_
  refine s_getFd (c := 95) (d := 96) dX1_compare_88 lX1_9 e95 (Or.inl rfl) (by decide) (by decide) ?_
  refine s_iload (x := l5) dX1_compare_91 rfl ?_
  refine s_dup2 dX1_compare_93 rfl rfl ?_
  refine s_iald (c := 96) (i := l5) dX1_compare_94 e96 r3.1 r3.2 ?_
  refine s_iload (x := bAnd s0 (bXor (1 * 2 ^ l5.toNat) (-1))) dX1_compare_95 rfl ?_
  refine s_ior dX1_compare_97 ?_
  refine s_iast (c := 96) (i := l5) dX1_compare_98 e96 r3.1 r3.2 ?_
  refine s_iconst dX1_compare_99 ?_
  refine s_istore dX1_compare_100 rfl (by decide) ?_
  exact kk
theorem bX1_compare_102 {fr M1 M2 b1 b2 : Nat} {Q : RS → Nat → AH → Prop} {h : AH} {l1 l3 l4 l5 l7 l8 : Int} {x6 : AV}  (r1 : -2147483648 ≤ l8 ∧ l8 < 2147483648 := by omega) (kt : 16 ≤ l8 → Wp mX1_compare (kR fr M1 M2) Q (b1, b2) 135 [zR 95, zR l1, zR 51, zR l3, zI l4, zI l5, none, zI l7, zI l8] [] 137 h) (kf : l8 < 16 → Wp mX1_compare (kR fr M1 M2) Q (b1, b2) 109 [zR 95, zR l1, zR 51, zR l3, zI l4, zI l5, none, zI l7, zI l8] [] 137 h) : Wp mX1_compare (kR fr M1 M2) Q (b1, b2) 102 [zR 95, zR l1, zR 51, zR l3, zI l4, zI l5, x6, zI l7, zI l8] [] 137 h := by
  refine s_fgt (fgt_c (fgt_c (fgt_c (fgt_c (fgt_c (fgt_c (fgt_n _ (fgt_c (fgt_c fgt_0))))))))) ?_
  refine s_iload (x := l8) dX1_compare_102 rfl ?_
  refine s_bipush dX1_compare_104 (by decide) ?_
  exact s_icmp_ge (tgt := 135) dX1_compare_106 (by decide) r1 ⟨by decide, by decide⟩ kt kf
theorem bX1_compare_109 {fr M1 M2 b1 b2 : Nat} {Q : RS → Nat → AH → Prop} {h : AH} {l1 l3 l4 l5 l7 l8 : Int} {x6 : AV}  (r1 : 0 ≤ l8 ∧ l8 < 16 := by omega) (r2 : 0 ≤ l8 ∧ l8 < 32 := by omega) (r3 : -2147483648 ≤ l7 ∧ l7 < 2147483648 := by omega) (r4 : 0 ≤ l5 ∧ l5 < 32 := by omega) (kk : Wp mX1_compare (kR fr M1 M2) Q (b1, b2) 102 [zR 95, zR l1, zR 51, zR l3, zI l4, zI l5, none, zI l7, zI (l8 + 1)] [] 137 (up h 96 l8 (bOr (h 96 l8) ((bAnd (l7 / 2 ^ l8.toNat) 1) * 2 ^ l5.toNat)))) : Wp mX1_compare (kR fr M1 M2) Q (b1, b2) 109 [zR 95, zR l1, zR 51, zR l3, zI l4, zI l5, x6, zI l7, zI l8] [] 137 h := by
  refine s_fgt (fgt_c (fgt_c (fgt_c (fgt_c (fgt_c (fgt_c (fgt_n _ (fgt_c (fgt_c fgt_0))))))))) ?_
  refine s_aload_n (x := 95) dX1_compare_109 rfl ?_
  refine s_getFd (c := 95) (d := 96) dX1_compare_110 lX1_9 e95 (Or.inl rfl) (by decide) (by decide) ?_
  refine s_iload (x := l8) dX1_compare_113 rfl ?_
  refine s_dup2 dX1_compare_115 rfl rfl ?_
  refine s_iald (c := 96) (i := l8) dX1_compare_116 e96 r1.1 r1.2 ?_
  refine s_iload (x := l7) dX1_compare_117 rfl ?_
  refine s_iload (x := l8) dX1_compare_119 rfl ?_
  refine s_ishrN dX1_compare_121 r3 r2.1 r2.2 ?_
  refine s_iconst dX1_compare_122 ?_
  refine s_iand dX1_compare_123 ?_
  refine s_iload (x := l5) dX1_compare_124 rfl ?_
  refine s_ishlN dX1_compare_126 r4.1 r4.2 ?_
  refine s_ior dX1_compare_127 ?_
  refine s_iast (c := 96) (i := l8) dX1_compare_128 e96 r1.1 r1.2 ?_
  refine s_iinc (x := l8) dX1_compare_129 rfl rfl (by decide) ?_
  exact s_goto (tgt := 102) dX1_compare_132 (by decide) kk
theorem bX1_compare_135 {fr M1 M2 b1 b2 : Nat} {Q : RS → Nat → AH → Prop} {h : AH} {l1 l3 l4 l5 : Int} {x6 x7 x8 : AV}   (kk : Wp mX1_compare (kR fr M1 M2) Q (b1, b2) 29 [zR 95, zR l1, zR 51, zR l3, zI l4, zI (l5 + 1), none, none, none] [] 137 h) : Wp mX1_compare (kR fr M1 M2) Q (b1, b2) 135 [zR 95, zR l1, zR 51, zR l3, zI l4, zI l5, x6, x7, x8] [] 137 h := by
  refine s_fgt (fgt_c (fgt_c (fgt_c (fgt_c (fgt_c (fgt_c (fgt_n _ (fgt_n _ (fgt_n _ fgt_0))))))))) ?_
  refine s_iinc (x := l5) dX1_compare_135 rfl rfl (by decide) ?_
  exact s_goto (tgt := 29) dX1_compare_138 (by decide) kk
theorem bX1_compare_141 {fr M1 M2 b1 b2 : Nat} {Q : RS → Nat → AH → Prop} {h : AH} {x0 x1 x2 x3 x4 x5 x6 x7 x8 : AV}   (hq : Q (.inl none) 137 h) : Wp mX1_compare (kR fr M1 M2) Q (b1, b2) 141 [x0, x1, x2, x3, x4, x5, x6, x7, x8] [] 137 h := by
  refine s_fgt (fgt_n _ (fgt_n _ (fgt_n _ (fgt_n _ (fgt_n _ (fgt_n _ (fgt_n _ (fgt_n _ (fgt_n _ fgt_0))))))))) ?_
  exact s_return dX1_compare_141 rfl hq (fun z => by cases z)
theorem dX1_heardGaps_0 : decode mX1_heardGaps.cd 0 = .ok (.iconst 0, 1) := by decide +kernel
theorem dX1_heardGaps_1 : decode mX1_heardGaps.cd 1 = .ok (.istore_n 2, 1) := by decide +kernel
theorem dX1_heardGaps_2 : decode mX1_heardGaps.cd 2 = .ok (.iconst 0, 1) := by decide +kernel
theorem dX1_heardGaps_3 : decode mX1_heardGaps.cd 3 = .ok (.istore_n 3, 1) := by decide +kernel
theorem dX1_heardGaps_4 : decode mX1_heardGaps.cd 4 = .ok (.iload_n 3, 1) := by decide +kernel
theorem dX1_heardGaps_5 : decode mX1_heardGaps.cd 5 = .ok (.bipush 18, 2) := by decide +kernel
theorem dX1_heardGaps_7 : decode mX1_heardGaps.cd 7 = .ok (.if_icmp .ge 36, 3) := by decide +kernel
theorem dX1_heardGaps_10 : decode mX1_heardGaps.cd 10 = .ok (.aload_n 1, 1) := by decide +kernel
theorem dX1_heardGaps_11 : decode mX1_heardGaps.cd 11 = .ok (.iload_n 3, 1) := by decide +kernel
theorem dX1_heardGaps_12 : decode mX1_heardGaps.cd 12 = .ok (.invokevirtual 34, 3) := by decide +kernel
theorem dX1_heardGaps_15 : decode mX1_heardGaps.cd 15 = .ok (.iload_n 3, 1) := by decide +kernel
theorem dX1_heardGaps_16 : decode mX1_heardGaps.cd 16 = .ok (.iconst 2, 1) := by decide +kernel
theorem dX1_heardGaps_17 : decode mX1_heardGaps.cd 17 = .ok (.if_icmp .lt 20, 3) := by decide +kernel
theorem dX1_heardGaps_20 : decode mX1_heardGaps.cd 20 = .ok (.aload_n 1, 1) := by decide +kernel
theorem dX1_heardGaps_21 : decode mX1_heardGaps.cd 21 = .ok (.iload_n 3, 1) := by decide +kernel
theorem dX1_heardGaps_22 : decode mX1_heardGaps.cd 22 = .ok (.invokevirtual 38, 3) := by decide +kernel
theorem dX1_heardGaps_25 : decode mX1_heardGaps.cd 25 = .ok (.iconst (-1), 1) := by decide +kernel
theorem dX1_heardGaps_26 : decode mX1_heardGaps.cd 26 = .ok (.if_icmp .eq 11, 3) := by decide +kernel
theorem dX1_heardGaps_29 : decode mX1_heardGaps.cd 29 = .ok (.iload_n 2, 1) := by decide +kernel
theorem dX1_heardGaps_30 : decode mX1_heardGaps.cd 30 = .ok (.iconst 1, 1) := by decide +kernel
theorem dX1_heardGaps_31 : decode mX1_heardGaps.cd 31 = .ok (.iload_n 3, 1) := by decide +kernel
theorem dX1_heardGaps_32 : decode mX1_heardGaps.cd 32 = .ok (.iconst 2, 1) := by decide +kernel
theorem dX1_heardGaps_33 : decode mX1_heardGaps.cd 33 = .ok (.isub, 1) := by decide +kernel
theorem dX1_heardGaps_34 : decode mX1_heardGaps.cd 34 = .ok (.ishl, 1) := by decide +kernel
theorem dX1_heardGaps_35 : decode mX1_heardGaps.cd 35 = .ok (.ior, 1) := by decide +kernel
theorem dX1_heardGaps_36 : decode mX1_heardGaps.cd 36 = .ok (.istore_n 2, 1) := by decide +kernel
theorem dX1_heardGaps_37 : decode mX1_heardGaps.cd 37 = .ok (.iinc 3 1, 3) := by decide +kernel
theorem dX1_heardGaps_40 : decode mX1_heardGaps.cd 40 = .ok (.goto (-36), 3) := by decide +kernel
theorem dX1_heardGaps_43 : decode mX1_heardGaps.cd 43 = .ok (.iload_n 2, 1) := by decide +kernel
theorem dX1_heardGaps_44 : decode mX1_heardGaps.cd 44 = .ok (.ireturn, 1) := by decide +kernel
theorem bX1_heardGaps_0 {fr M1 M2 b1 b2 : Nat} {Q : RS → Nat → AH → Prop} {h : AH} {x0 x2 x3 : AV}   (kk : Wp mX1_heardGaps (kR fr M1 M2) Q (b1, b2) 4 [none, zR 51, zI 0, zI 0] [] 137 h) : Wp mX1_heardGaps (kR fr M1 M2) Q (b1, b2) 0 [x0, zR 51, x2, x3] [] 137 h := by
  refine s_fgt (fgt_n _ (fgt_c (fgt_n _ (fgt_n _ fgt_0)))) ?_
  refine s_iconst dX1_heardGaps_0 ?_
  refine s_istore_n dX1_heardGaps_1 rfl (by decide) ?_
  refine s_iconst dX1_heardGaps_2 ?_
  refine s_istore_n dX1_heardGaps_3 rfl (by decide) ?_
  exact kk
theorem bX1_heardGaps_4 {fr M1 M2 b1 b2 : Nat} {Q : RS → Nat → AH → Prop} {h : AH} {l2 l3 : Int} {x0 : AV}  (r1 : -2147483648 ≤ l3 ∧ l3 < 2147483648 := by omega) (kt : 18 ≤ l3 → Wp mX1_heardGaps (kR fr M1 M2) Q (b1, b2) 43 [none, zR 51, zI l2, zI l3] [] 137 h) (kf : l3 < 18 → Wp mX1_heardGaps (kR fr M1 M2) Q (b1, b2) 10 [none, zR 51, zI l2, zI l3] [] 137 h) : Wp mX1_heardGaps (kR fr M1 M2) Q (b1, b2) 4 [x0, zR 51, zI l2, zI l3] [] 137 h := by
  refine s_fgt (fgt_n _ (fgt_c (fgt_c (fgt_c fgt_0)))) ?_
  refine s_iload_n (x := l3) dX1_heardGaps_4 rfl ?_
  refine s_bipush dX1_heardGaps_5 (by decide) ?_
  exact s_icmp_ge (tgt := 43) dX1_heardGaps_7 (by decide) r1 ⟨by decide, by decide⟩ kt kf
theorem bX1_heardGaps_10 {fr M1 M2 b1 b2 : Nat} {Q : RS → Nat → AH → Prop} {h : AH} {l2 l3 : Int} {x0 : AV} {R : AH → Prop}   (hS : Sp mX4_measure true (fr - 1) 0 0 [zR 51, zI l3] 137 h (rV R)) (hf : 1 ≤ fr := by omega) (kk : ∀ h' : AH, R h' → Wp mX1_heardGaps (kR fr M1 M2) Q (b1, b2) 15 [none, zR 51, zI l2, zI l3] [] 137 h') : Wp mX1_heardGaps (kR fr M1 M2) Q (b1, b2) 10 [x0, zR 51, zI l2, zI l3] [] 137 h := by
  refine s_fgt (fgt_n _ (fgt_c (fgt_c (fgt_c fgt_0)))) ?_
  refine s_aload_n (x := 51) dX1_heardGaps_10 rfl ?_
  refine s_iload_n (x := l3) dX1_heardGaps_11 rfl ?_
  exact s_callV (as := [zI l3]) (st := []) (o := 51) dX1_heardGaps_12 kX1_34 rfl ⟨4, 9, TX4, e51, rfl, by decide⟩ rfl rfl (Nat.le_of_ble_eq_true rfl) hS (show fr - 1 + 1 ≤ fr by omega) (Nat.zero_le _) (Nat.zero_le _) (fun v n' h' hP _ => by obtain ⟨e, rfl, hR⟩ := hP; cases e; exact kk h' hR) (fun E n' h' _ z => (rV_nt _ _ _ z).elim)
theorem bX1_heardGaps_15 {fr M1 M2 b1 b2 : Nat} {Q : RS → Nat → AH → Prop} {h : AH} {l2 l3 : Int} {x0 : AV}  (r1 : -2147483648 ≤ l3 ∧ l3 < 2147483648 := by omega) (kt : l3 < 2 → Wp mX1_heardGaps (kR fr M1 M2) Q (b1, b2) 37 [none, zR 51, zI l2, zI l3] [] 137 h) (kf : 2 ≤ l3 → Wp mX1_heardGaps (kR fr M1 M2) Q (b1, b2) 20 [none, zR 51, zI l2, zI l3] [] 137 h) : Wp mX1_heardGaps (kR fr M1 M2) Q (b1, b2) 15 [x0, zR 51, zI l2, zI l3] [] 137 h := by
  refine s_fgt (fgt_n _ (fgt_c (fgt_c (fgt_c fgt_0)))) ?_
  refine s_iload_n (x := l3) dX1_heardGaps_15 rfl ?_
  refine s_iconst dX1_heardGaps_16 ?_
  exact s_icmp_lt (tgt := 37) dX1_heardGaps_17 (by decide) r1 ⟨by decide, by decide⟩ kt kf
theorem bX1_heardGaps_20 {fr M1 M2 b1 b2 : Nat} {Q : RS → Nat → AH → Prop} {h : AH} {l2 l3 : Int} {x0 : AV} {R : Int → AH → Prop}   (hS : Sp mX4_hears true (fr - 1) 0 0 [zR 51, zI l3] 137 h (rI R)) (hf : 1 ≤ fr := by omega) (kk : ∀ (x : Int) (h' : AH), R x h' → Wp mX1_heardGaps (kR fr M1 M2) Q (b1, b2) 25 [none, zR 51, zI l2, zI l3] [zI x] 137 h') : Wp mX1_heardGaps (kR fr M1 M2) Q (b1, b2) 20 [x0, zR 51, zI l2, zI l3] [] 137 h := by
  refine s_fgt (fgt_n _ (fgt_c (fgt_c (fgt_c fgt_0)))) ?_
  refine s_aload_n (x := 51) dX1_heardGaps_20 rfl ?_
  refine s_iload_n (x := l3) dX1_heardGaps_21 rfl ?_
  exact s_callV (as := [zI l3]) (st := []) (o := 51) dX1_heardGaps_22 kX1_38 rfl ⟨4, 9, TX4, e51, rfl, by decide⟩ rfl rfl (Nat.le_of_ble_eq_true rfl) hS (show fr - 1 + 1 ≤ fr by omega) (Nat.zero_le _) (Nat.zero_le _) (fun v n' h' hP _ => by obtain ⟨x, e, rfl, hR⟩ := hP; cases e; exact kk x h' hR) (fun E n' h' _ z => (rI_nt _ _ _ z).elim)
theorem bX1_heardGaps_25 {fr M1 M2 b1 b2 : Nat} {Q : RS → Nat → AH → Prop} {h : AH} {l2 l3 s0 : Int} {x0 : AV}  (r1 : -2147483648 ≤ s0 ∧ s0 < 2147483648 := by omega) (kt : s0 = (-1) → Wp mX1_heardGaps (kR fr M1 M2) Q (b1, b2) 37 [none, zR 51, zI l2, zI l3] [] 137 h) (kf : ¬ s0 = (-1) → Wp mX1_heardGaps (kR fr M1 M2) Q (b1, b2) 29 [none, zR 51, zI l2, zI l3] [] 137 h) : Wp mX1_heardGaps (kR fr M1 M2) Q (b1, b2) 25 [x0, zR 51, zI l2, zI l3] [zI s0] 137 h := by
  refine s_fgt (fgt_n _ (fgt_c (fgt_c (fgt_c fgt_0)))) ?_
  refine s_iconst dX1_heardGaps_25 ?_
  exact s_icmp_eq (tgt := 37) dX1_heardGaps_26 (by decide) r1 ⟨by decide, by decide⟩ kt kf
theorem bX1_heardGaps_29 {fr M1 M2 b1 b2 : Nat} {Q : RS → Nat → AH → Prop} {h : AH} {l2 l3 : Int} {x0 : AV}  (r1 : 0 ≤ l3 - 2 ∧ l3 - 2 < 32 := by omega) (kk : Wp mX1_heardGaps (kR fr M1 M2) Q (b1, b2) 37 [none, zR 51, zI (bOr l2 (1 * 2 ^ (l3 - 2).toNat)), zI l3] [] 137 h) : Wp mX1_heardGaps (kR fr M1 M2) Q (b1, b2) 29 [x0, zR 51, zI l2, zI l3] [] 137 h := by
  refine s_fgt (fgt_n _ (fgt_c (fgt_c (fgt_c fgt_0)))) ?_
  refine s_iload_n (x := l2) dX1_heardGaps_29 rfl ?_
  refine s_iconst dX1_heardGaps_30 ?_
  refine s_iload_n (x := l3) dX1_heardGaps_31 rfl ?_
  refine s_iconst dX1_heardGaps_32 ?_
  refine s_isub dX1_heardGaps_33 ?_
  refine s_ishlN dX1_heardGaps_34 r1.1 r1.2 ?_
  refine s_ior dX1_heardGaps_35 ?_
  refine s_istore_n dX1_heardGaps_36 rfl (by decide) ?_
  exact kk
theorem bX1_heardGaps_37 {fr M1 M2 b1 b2 : Nat} {Q : RS → Nat → AH → Prop} {h : AH} {l2 l3 : Int} {x0 : AV}   (kk : Wp mX1_heardGaps (kR fr M1 M2) Q (b1, b2) 4 [none, zR 51, zI l2, zI (l3 + 1)] [] 137 h) : Wp mX1_heardGaps (kR fr M1 M2) Q (b1, b2) 37 [x0, zR 51, zI l2, zI l3] [] 137 h := by
  refine s_fgt (fgt_n _ (fgt_c (fgt_c (fgt_c fgt_0)))) ?_
  refine s_iinc (x := l3) dX1_heardGaps_37 rfl rfl (by decide) ?_
  exact s_goto (tgt := 4) dX1_heardGaps_40 (by decide) kk
theorem bX1_heardGaps_43 {fr M1 M2 b1 b2 : Nat} {Q : RS → Nat → AH → Prop} {h : AH} {l2 : Int} {x0 x1 x3 : AV}   (hq : Q (.inl (some (zI l2))) 137 h) : Wp mX1_heardGaps (kR fr M1 M2) Q (b1, b2) 43 [x0, x1, zI l2, x3] [] 137 h := by
  refine s_fgt (fgt_n _ (fgt_n _ (fgt_c (fgt_n _ fgt_0)))) ?_
  refine s_iload_n (x := l2) dX1_heardGaps_43 rfl ?_
  exact s_ireturn dX1_heardGaps_44 ⟨.int, rfl, rfl⟩ hq (fun z => by cases z)
theorem dX1_choose_0 : decode mX1_choose.cd 0 = .ok (.aload_n 0, 1) := by decide +kernel
theorem dX1_choose_1 : decode mX1_choose.cd 1 = .ok (.iconst 0, 1) := by decide +kernel
theorem dX1_choose_2 : decode mX1_choose.cd 2 = .ok (.putfield 42, 3) := by decide +kernel
theorem dX1_choose_5 : decode mX1_choose.cd 5 = .ok (.aload_n 0, 1) := by decide +kernel
theorem dX1_choose_6 : decode mX1_choose.cd 6 = .ok (.iconst 0, 1) := by decide +kernel
theorem dX1_choose_7 : decode mX1_choose.cd 7 = .ok (.putfield 46, 3) := by decide +kernel
theorem dX1_choose_10 : decode mX1_choose.cd 10 = .ok (.aload_n 0, 1) := by decide +kernel
theorem dX1_choose_11 : decode mX1_choose.cd 11 = .ok (.iconst 0, 1) := by decide +kernel
theorem dX1_choose_12 : decode mX1_choose.cd 12 = .ok (.putfield 49, 3) := by decide +kernel
theorem dX1_choose_15 : decode mX1_choose.cd 15 = .ok (.aload_n 0, 1) := by decide +kernel
theorem dX1_choose_16 : decode mX1_choose.cd 16 = .ok (.ldc 52, 2) := by decide +kernel
theorem dX1_choose_18 : decode mX1_choose.cd 18 = .ok (.iconst 0, 1) := by decide +kernel
theorem dX1_choose_19 : decode mX1_choose.cd 19 = .ok (.invokevirtual 53, 3) := by decide +kernel
theorem dX1_choose_22 : decode mX1_choose.cd 22 = .ok (.aload_n 0, 1) := by decide +kernel
theorem dX1_choose_23 : decode mX1_choose.cd 23 = .ok (.getfield 42, 3) := by decide +kernel
theorem dX1_choose_26 : decode mX1_choose.cd 26 = .ok (.ireturn, 1) := by decide +kernel
theorem bX1_choose_0 {fr M1 M2 b1 b2 : Nat} {Q : RS → Nat → AH → Prop} {h : AH} {R : AH → Prop}   (hS : Sp mX1_extend true (fr - 1) 0 0 [zR 95, zI 65535, zI 0] 137 (up (up (up h 95 2 0) 95 3 0) 95 4 0) (rV R)) (hf : 1 ≤ fr := by omega) (kk : ∀ h' : AH, R h' → Wp mX1_choose (kR fr M1 M2) Q (b1, b2) 22 [zR 95] [] 137 h') : Wp mX1_choose (kR fr M1 M2) Q (b1, b2) 0 [zR 95] [] 137 h := by
  refine s_aload_n (x := 95) dX1_choose_0 rfl ?_
  refine s_iconst dX1_choose_1 ?_
  refine s_put (c := 95) dX1_choose_2 lX1_42 e95 ?_
  refine s_aload_n (x := 95) dX1_choose_5 rfl ?_
  refine s_iconst dX1_choose_6 ?_
  refine s_put (c := 95) dX1_choose_7 lX1_46 e95 ?_
  refine s_aload_n (x := 95) dX1_choose_10 rfl ?_
  refine s_iconst dX1_choose_11 ?_
  refine s_put (c := 95) dX1_choose_12 lX1_49 e95 ?_
  refine s_aload_n (x := 95) dX1_choose_15 rfl ?_
  refine s_ldc (v := 65535) dX1_choose_16 wd1298 ?_
  refine s_iconst dX1_choose_18 ?_
  exact s_callV (as := [zI 65535, zI 0]) (st := []) (o := 95) dX1_choose_19 kX1_53 rfl ⟨1, 5, TX1, e95, rfl, by decide⟩ rfl rfl (Nat.le_of_ble_eq_true rfl) hS (show fr - 1 + 1 ≤ fr by omega) (Nat.zero_le _) (Nat.zero_le _) (fun v n' h' hP _ => by obtain ⟨e, rfl, hR⟩ := hP; cases e; exact kk h' hR) (fun E n' h' _ z => (rV_nt _ _ _ z).elim)
theorem bX1_choose_22 {fr M1 M2 b1 b2 : Nat} {Q : RS → Nat → AH → Prop} {h : AH}   (hq : Q (.inl (some (zI (h 95 2)))) 137 h) : Wp mX1_choose (kR fr M1 M2) Q (b1, b2) 22 [zR 95] [] 137 h := by
  refine s_aload_n (x := 95) dX1_choose_22 rfl ?_
  refine s_get (c := 95) dX1_choose_23 lX1_42 e95 (by decide) ?_
  exact s_ireturn dX1_choose_26 ⟨.int, rfl, rfl⟩ hq (fun z => by cases z)
theorem dX1_extend_0 : decode mX1_extend.cd 0 = .ok (.iload_n 2, 1) := by decide +kernel
theorem dX1_extend_1 : decode mX1_extend.cd 1 = .ok (.invokestatic 57, 3) := by decide +kernel
theorem dX1_extend_4 : decode mX1_extend.cd 4 = .ok (.iload_n 1, 1) := by decide +kernel
theorem dX1_extend_5 : decode mX1_extend.cd 5 = .ok (.invokestatic 57, 3) := by decide +kernel
theorem dX1_extend_8 : decode mX1_extend.cd 8 = .ok (.iadd, 1) := by decide +kernel
theorem dX1_extend_9 : decode mX1_extend.cd 9 = .ok (.aload_n 0, 1) := by decide +kernel
theorem dX1_extend_10 : decode mX1_extend.cd 10 = .ok (.getfield 46, 3) := by decide +kernel
theorem dX1_extend_13 : decode mX1_extend.cd 13 = .ok (.if_icmp .ge 4, 3) := by decide +kernel
theorem dX1_extend_16 : decode mX1_extend.cd 16 = .ok (.return_, 1) := by decide +kernel
theorem dX1_extend_17 : decode mX1_extend.cd 17 = .ok (.iload_n 1, 1) := by decide +kernel
theorem dX1_extend_18 : decode mX1_extend.cd 18 = .ok (.ifCond .ne 9, 3) := by decide +kernel
theorem dX1_extend_21 : decode mX1_extend.cd 21 = .ok (.aload_n 0, 1) := by decide +kernel
theorem dX1_extend_22 : decode mX1_extend.cd 22 = .ok (.iload_n 2, 1) := by decide +kernel
theorem dX1_extend_23 : decode mX1_extend.cd 23 = .ok (.invokevirtual 62, 3) := by decide +kernel
theorem dX1_extend_26 : decode mX1_extend.cd 26 = .ok (.return_, 1) := by decide +kernel
theorem dX1_extend_27 : decode mX1_extend.cd 27 = .ok (.iload_n 1, 1) := by decide +kernel
theorem dX1_extend_28 : decode mX1_extend.cd 28 = .ok (.invokestatic 65, 3) := by decide +kernel
theorem dX1_extend_31 : decode mX1_extend.cd 31 = .ok (.istore_n 3, 1) := by decide +kernel
theorem dX1_extend_32 : decode mX1_extend.cd 32 = .ok (.iload_n 1, 1) := by decide +kernel
theorem dX1_extend_33 : decode mX1_extend.cd 33 = .ok (.iload_n 1, 1) := by decide +kernel
theorem dX1_extend_34 : decode mX1_extend.cd 34 = .ok (.iconst 1, 1) := by decide +kernel
theorem dX1_extend_35 : decode mX1_extend.cd 35 = .ok (.isub, 1) := by decide +kernel
theorem dX1_extend_36 : decode mX1_extend.cd 36 = .ok (.iand, 1) := by decide +kernel
theorem dX1_extend_37 : decode mX1_extend.cd 37 = .ok (.istore 4, 2) := by decide +kernel
theorem dX1_extend_39 : decode mX1_extend.cd 39 = .ok (.aload_n 0, 1) := by decide +kernel
theorem dX1_extend_40 : decode mX1_extend.cd 40 = .ok (.iload 4, 2) := by decide +kernel
theorem dX1_extend_42 : decode mX1_extend.cd 42 = .ok (.aload_n 0, 1) := by decide +kernel
theorem dX1_extend_43 : decode mX1_extend.cd 43 = .ok (.getfield 9, 3) := by decide +kernel
theorem dX1_extend_46 : decode mX1_extend.cd 46 = .ok (.iload_n 3, 1) := by decide +kernel
theorem dX1_extend_47 : decode mX1_extend.cd 47 = .ok (.iaload, 1) := by decide +kernel
theorem dX1_extend_48 : decode mX1_extend.cd 48 = .ok (.iconst (-1), 1) := by decide +kernel
theorem dX1_extend_49 : decode mX1_extend.cd 49 = .ok (.ixor, 1) := by decide +kernel
theorem dX1_extend_50 : decode mX1_extend.cd 50 = .ok (.iand, 1) := by decide +kernel
theorem dX1_extend_51 : decode mX1_extend.cd 51 = .ok (.iload_n 2, 1) := by decide +kernel
theorem dX1_extend_52 : decode mX1_extend.cd 52 = .ok (.iconst 1, 1) := by decide +kernel
theorem dX1_extend_53 : decode mX1_extend.cd 53 = .ok (.iload_n 3, 1) := by decide +kernel
theorem dX1_extend_54 : decode mX1_extend.cd 54 = .ok (.ishl, 1) := by decide +kernel
theorem dX1_extend_55 : decode mX1_extend.cd 55 = .ok (.ior, 1) := by decide +kernel
theorem dX1_extend_56 : decode mX1_extend.cd 56 = .ok (.invokevirtual 53, 3) := by decide +kernel
theorem dX1_extend_59 : decode mX1_extend.cd 59 = .ok (.iload 4, 2) := by decide +kernel
theorem dX1_extend_61 : decode mX1_extend.cd 61 = .ok (.aload_n 0, 1) := by decide +kernel
theorem dX1_extend_62 : decode mX1_extend.cd 62 = .ok (.getfield 9, 3) := by decide +kernel
theorem dX1_extend_65 : decode mX1_extend.cd 65 = .ok (.iload_n 3, 1) := by decide +kernel
theorem dX1_extend_66 : decode mX1_extend.cd 66 = .ok (.iaload, 1) := by decide +kernel
theorem dX1_extend_67 : decode mX1_extend.cd 67 = .ok (.iand, 1) := by decide +kernel
theorem dX1_extend_68 : decode mX1_extend.cd 68 = .ok (.ifCond .eq 10, 3) := by decide +kernel
theorem dX1_extend_71 : decode mX1_extend.cd 71 = .ok (.aload_n 0, 1) := by decide +kernel
theorem dX1_extend_72 : decode mX1_extend.cd 72 = .ok (.iload 4, 2) := by decide +kernel
theorem dX1_extend_74 : decode mX1_extend.cd 74 = .ok (.iload_n 2, 1) := by decide +kernel
theorem dX1_extend_75 : decode mX1_extend.cd 75 = .ok (.invokevirtual 53, 3) := by decide +kernel
theorem dX1_extend_78 : decode mX1_extend.cd 78 = .ok (.return_, 1) := by decide +kernel
theorem bX1_extend_0 {fr M1 M2 b1 b2 : Nat} {Q : RS → Nat → AH → Prop} {h : AH} {l1 l2 : Int} {x3 x4 : AV} {R : Int → AH → Prop}   (hS : Sp mJ6_bitCount_0f7a4 true (fr - 1) 0 0 [zI l2] 137 h (rI R)) (hf : 1 ≤ fr := by omega) (kk : ∀ (x : Int) (h' : AH), R x h' → Wp mX1_extend (kR fr M1 M2) Q (b1, b2) 4 [zR 95, zI l1, zI l2, none, none] [zI x] 137 h') : Wp mX1_extend (kR fr M1 M2) Q (b1, b2) 0 [zR 95, zI l1, zI l2, x3, x4] [] 137 h := by
  refine s_fgt (fgt_c (fgt_c (fgt_c (fgt_n _ (fgt_n _ fgt_0))))) ?_
  refine s_iload_n (x := l2) dX1_extend_0 rfl ?_
  exact s_callS (as := [zI l2]) (st := []) dX1_extend_1 kX1_57 rfl rfl (Nat.le_of_ble_eq_true rfl) hS (show fr - 1 + 1 ≤ fr by omega) (Nat.zero_le _) (Nat.zero_le _) (fun v n' h' hP _ => by obtain ⟨x, e, rfl, hR⟩ := hP; cases e; exact kk x h' hR) (fun E n' h' _ z => (rI_nt _ _ _ z).elim)
theorem bX1_extend_4 {fr M1 M2 b1 b2 : Nat} {Q : RS → Nat → AH → Prop} {h : AH} {l1 l2 s0 : Int} {x3 x4 : AV} {R : Int → AH → Prop}   (hS : Sp mJ6_bitCount_0f7a4 true (fr - 1) 0 0 [zI l1] 137 h (rI R)) (hf : 1 ≤ fr := by omega) (kk : ∀ (x : Int) (h' : AH), R x h' → Wp mX1_extend (kR fr M1 M2) Q (b1, b2) 8 [zR 95, zI l1, zI l2, none, none] [zI x, zI s0] 137 h') : Wp mX1_extend (kR fr M1 M2) Q (b1, b2) 4 [zR 95, zI l1, zI l2, x3, x4] [zI s0] 137 h := by
  refine s_fgt (fgt_c (fgt_c (fgt_c (fgt_n _ (fgt_n _ fgt_0))))) ?_
  refine s_iload_n (x := l1) dX1_extend_4 rfl ?_
  exact s_callS (as := [zI l1]) (st := [zI s0]) dX1_extend_5 kX1_57 rfl rfl (Nat.le_of_ble_eq_true rfl) hS (show fr - 1 + 1 ≤ fr by omega) (Nat.zero_le _) (Nat.zero_le _) (fun v n' h' hP _ => by obtain ⟨x, e, rfl, hR⟩ := hP; cases e; exact kk x h' hR) (fun E n' h' _ z => (rI_nt _ _ _ z).elim)
theorem bX1_extend_8 {fr M1 M2 b1 b2 : Nat} {Q : RS → Nat → AH → Prop} {h : AH} {l1 l2 s1 s0 : Int} {x3 x4 : AV}  (r1 : -2147483648 ≤ s1 + s0 ∧ s1 + s0 < 2147483648 := by omega) (r2 : -2147483648 ≤ h 95 3 ∧ h 95 3 < 2147483648 := by omega) (kt : h 95 3 ≤ s1 + s0 → Wp mX1_extend (kR fr M1 M2) Q (b1, b2) 17 [zR 95, zI l1, zI l2, none, none] [] 137 h) (kf : s1 + s0 < h 95 3 → Wp mX1_extend (kR fr M1 M2) Q (b1, b2) 16 [zR 95, zI l1, zI l2, none, none] [] 137 h) : Wp mX1_extend (kR fr M1 M2) Q (b1, b2) 8 [zR 95, zI l1, zI l2, x3, x4] [zI s0, zI s1] 137 h := by
  refine s_fgt (fgt_c (fgt_c (fgt_c (fgt_n _ (fgt_n _ fgt_0))))) ?_
  refine s_iadd dX1_extend_8 ?_
  refine s_aload_n (x := 95) dX1_extend_9 rfl ?_
  refine s_get (c := 95) dX1_extend_10 lX1_46 e95 (by decide) ?_
  exact s_icmp_ge (tgt := 17) dX1_extend_13 (by decide) r1 r2 kt kf
theorem bX1_extend_16 {fr M1 M2 b1 b2 : Nat} {Q : RS → Nat → AH → Prop} {h : AH} {x0 x1 x2 x3 x4 : AV}   (hq : Q (.inl none) 137 h) : Wp mX1_extend (kR fr M1 M2) Q (b1, b2) 16 [x0, x1, x2, x3, x4] [] 137 h := by
  refine s_fgt (fgt_n _ (fgt_n _ (fgt_n _ (fgt_n _ (fgt_n _ fgt_0))))) ?_
  exact s_return dX1_extend_16 rfl hq (fun z => by cases z)
theorem bX1_extend_17 {fr M1 M2 b1 b2 : Nat} {Q : RS → Nat → AH → Prop} {h : AH} {l1 l2 : Int} {x3 x4 : AV}  (r1 : -2147483648 ≤ l1 ∧ l1 < 2147483648 := by omega) (kt : ¬ l1 = 0 → Wp mX1_extend (kR fr M1 M2) Q (b1, b2) 27 [zR 95, zI l1, zI l2, none, none] [] 137 h) (kf : l1 = 0 → Wp mX1_extend (kR fr M1 M2) Q (b1, b2) 21 [zR 95, zI l1, zI l2, none, none] [] 137 h) : Wp mX1_extend (kR fr M1 M2) Q (b1, b2) 17 [zR 95, zI l1, zI l2, x3, x4] [] 137 h := by
  refine s_fgt (fgt_c (fgt_c (fgt_c (fgt_n _ (fgt_n _ fgt_0))))) ?_
  refine s_iload_n (x := l1) dX1_extend_17 rfl ?_
  exact s_if_ne (tgt := 27) dX1_extend_18 (by decide) r1 kt kf
theorem bX1_extend_21 {fr M1 M2 b1 b2 : Nat} {Q : RS → Nat → AH → Prop} {h : AH} {l2 : Int} {x1 x3 x4 : AV} {R : AH → Prop}   (hS : Sp mX1_weigh true (fr - 1) 0 0 [zR 95, zI l2] 137 h (rV R)) (hf : 1 ≤ fr := by omega) (kk : ∀ h' : AH, R h' → Wp mX1_extend (kR fr M1 M2) Q (b1, b2) 26 [zR 95, none, zI l2, none, none] [] 137 h') : Wp mX1_extend (kR fr M1 M2) Q (b1, b2) 21 [zR 95, x1, zI l2, x3, x4] [] 137 h := by
  refine s_fgt (fgt_c (fgt_n _ (fgt_c (fgt_n _ (fgt_n _ fgt_0))))) ?_
  refine s_aload_n (x := 95) dX1_extend_21 rfl ?_
  refine s_iload_n (x := l2) dX1_extend_22 rfl ?_
  exact s_callV (as := [zI l2]) (st := []) (o := 95) dX1_extend_23 kX1_62 rfl ⟨1, 5, TX1, e95, rfl, by decide⟩ rfl rfl (Nat.le_of_ble_eq_true rfl) hS (show fr - 1 + 1 ≤ fr by omega) (Nat.zero_le _) (Nat.zero_le _) (fun v n' h' hP _ => by obtain ⟨e, rfl, hR⟩ := hP; cases e; exact kk h' hR) (fun E n' h' _ z => (rV_nt _ _ _ z).elim)
theorem bX1_extend_26 {fr M1 M2 b1 b2 : Nat} {Q : RS → Nat → AH → Prop} {h : AH} {x0 x1 x2 x3 x4 : AV}   (hq : Q (.inl none) 137 h) : Wp mX1_extend (kR fr M1 M2) Q (b1, b2) 26 [x0, x1, x2, x3, x4] [] 137 h := by
  refine s_fgt (fgt_n _ (fgt_n _ (fgt_n _ (fgt_n _ (fgt_n _ fgt_0))))) ?_
  exact s_return dX1_extend_26 rfl hq (fun z => by cases z)
theorem bX1_extend_27 {fr M1 M2 b1 b2 : Nat} {Q : RS → Nat → AH → Prop} {h : AH} {l1 l2 : Int} {x3 x4 : AV} {R : Int → AH → Prop}   (hS : Sp mX11_lowestBit true (fr - 1) 0 0 [zI l1] 137 h (rI R)) (hf : 1 ≤ fr := by omega) (kk : ∀ (x : Int) (h' : AH), R x h' → Wp mX1_extend (kR fr M1 M2) Q (b1, b2) 31 [zR 95, zI l1, zI l2, none, none] [zI x] 137 h') : Wp mX1_extend (kR fr M1 M2) Q (b1, b2) 27 [zR 95, zI l1, zI l2, x3, x4] [] 137 h := by
  refine s_fgt (fgt_c (fgt_c (fgt_c (fgt_n _ (fgt_n _ fgt_0))))) ?_
  refine s_iload_n (x := l1) dX1_extend_27 rfl ?_
  exact s_callSN (host := "EchoGorge") (as := [zI l1]) (st := []) dX1_extend_28 (by decide +kernel) kX1_65.1 kX1_65.2 rfl rfl rfl (Nat.le_of_ble_eq_true rfl) hS rI_nt (show fr - 1 + 1 ≤ fr by omega) (Nat.zero_le _) (Nat.zero_le _) (fun v n' h' hP _ => by obtain ⟨x, e, rfl, hR⟩ := hP; cases e; exact kk x h' hR)
theorem bX1_extend_31 {fr M1 M2 b1 b2 : Nat} {Q : RS → Nat → AH → Prop} {h : AH} {l1 l2 s0 : Int} {x3 x4 : AV} {R : AH → Prop}  (r1 : 0 ≤ s0 ∧ s0 < 16 := by omega) (r2 : 0 ≤ s0 ∧ s0 < 32 := by omega) (hS : Sp mX1_extend true (fr - 1) 0 0 [zR 95, zI (bAnd (bAnd l1 (l1 - 1)) (bXor (h 96 s0) (-1))), zI (bOr l2 (1 * 2 ^ s0.toNat))] 137 h (rV R)) (hf : 1 ≤ fr := by omega) (kk : ∀ h' : AH, R h' → Wp mX1_extend (kR fr M1 M2) Q (b1, b2) 59 [zR 95, zI l1, zI l2, zI s0, zI (bAnd l1 (l1 - 1))] [] 137 h') : Wp mX1_extend (kR fr M1 M2) Q (b1, b2) 31 [zR 95, zI l1, zI l2, x3, x4] [zI s0] 137 h := by
  refine s_fgt (fgt_c (fgt_c (fgt_c (fgt_n _ (fgt_n _ fgt_0))))) ?_
  refine s_istore_n dX1_extend_31 rfl (by decide) ?_
  refine s_iload_n (x := l1) dX1_extend_32 rfl ?_
  refine s_iload_n (x := l1) dX1_extend_33 rfl ?_
  refine s_iconst dX1_extend_34 ?_
  refine s_isub dX1_extend_35 ?_
  refine s_iand dX1_extend_36 ?_
  refine s_istore dX1_extend_37 rfl (by decide) ?_
  refine s_aload_n (x := 95) dX1_extend_39 rfl ?_
  refine s_iload (x := bAnd l1 (l1 - 1)) dX1_extend_40 rfl ?_
  refine s_aload_n (x := 95) dX1_extend_42 rfl ?_
  refine s_getFd (c := 95) (d := 96) dX1_extend_43 lX1_9 e95 (Or.inl rfl) (by decide) (by decide) ?_
  refine s_iload_n (x := s0) dX1_extend_46 rfl ?_
  refine s_iald (c := 96) (i := s0) dX1_extend_47 e96 r1.1 r1.2 ?_
  refine s_iconst dX1_extend_48 ?_
  refine s_ixor dX1_extend_49 ?_
  refine s_iand dX1_extend_50 ?_
  refine s_iload_n (x := l2) dX1_extend_51 rfl ?_
  refine s_iconst dX1_extend_52 ?_
  refine s_iload_n (x := s0) dX1_extend_53 rfl ?_
  refine s_ishlN dX1_extend_54 r2.1 r2.2 ?_
  refine s_ior dX1_extend_55 ?_
  exact s_callV (as := [zI (bAnd (bAnd l1 (l1 - 1)) (bXor (h 96 s0) (-1))), zI (bOr l2 (1 * 2 ^ s0.toNat))]) (st := []) (o := 95) dX1_extend_56 kX1_53 rfl ⟨1, 5, TX1, e95, rfl, by decide⟩ rfl rfl (Nat.le_of_ble_eq_true rfl) hS (show fr - 1 + 1 ≤ fr by omega) (Nat.zero_le _) (Nat.zero_le _) (fun v n' h' hP _ => by obtain ⟨e, rfl, hR⟩ := hP; cases e; exact kk h' hR) (fun E n' h' _ z => (rV_nt _ _ _ z).elim)
theorem bX1_extend_59 {fr M1 M2 b1 b2 : Nat} {Q : RS → Nat → AH → Prop} {h : AH} {l2 l3 l4 : Int} {x1 : AV}  (r1 : 0 ≤ l3 ∧ l3 < 16 := by omega) (r2 : -2147483648 ≤ bAnd l4 (h 96 l3) ∧ bAnd l4 (h 96 l3) < 2147483648 := by omega) (kt : bAnd l4 (h 96 l3) = 0 → Wp mX1_extend (kR fr M1 M2) Q (b1, b2) 78 [zR 95, none, zI l2, zI l3, zI l4] [] 137 h) (kf : ¬ bAnd l4 (h 96 l3) = 0 → Wp mX1_extend (kR fr M1 M2) Q (b1, b2) 71 [zR 95, none, zI l2, zI l3, zI l4] [] 137 h) : Wp mX1_extend (kR fr M1 M2) Q (b1, b2) 59 [zR 95, x1, zI l2, zI l3, zI l4] [] 137 h := by
  refine s_fgt (fgt_c (fgt_n _ (fgt_c (fgt_c (fgt_c fgt_0))))) ?_
  refine s_iload (x := l4) dX1_extend_59 rfl ?_
  refine s_aload_n (x := 95) dX1_extend_61 rfl ?_
  refine s_getFd (c := 95) (d := 96) dX1_extend_62 lX1_9 e95 (Or.inl rfl) (by decide) (by decide) ?_
  refine s_iload_n (x := l3) dX1_extend_65 rfl ?_
  refine s_iald (c := 96) (i := l3) dX1_extend_66 e96 r1.1 r1.2 ?_
  refine s_iand dX1_extend_67 ?_
  exact s_if_eq (tgt := 78) dX1_extend_68 (by decide) r2 kt kf
theorem bX1_extend_71 {fr M1 M2 b1 b2 : Nat} {Q : RS → Nat → AH → Prop} {h : AH} {l2 l4 : Int} {x1 x3 : AV} {R : AH → Prop}   (hS : Sp mX1_extend true (fr - 1) 0 0 [zR 95, zI l4, zI l2] 137 h (rV R)) (hf : 1 ≤ fr := by omega) (kk : ∀ h' : AH, R h' → Wp mX1_extend (kR fr M1 M2) Q (b1, b2) 78 [zR 95, none, zI l2, none, zI l4] [] 137 h') : Wp mX1_extend (kR fr M1 M2) Q (b1, b2) 71 [zR 95, x1, zI l2, x3, zI l4] [] 137 h := by
  refine s_fgt (fgt_c (fgt_n _ (fgt_c (fgt_n _ (fgt_c fgt_0))))) ?_
  refine s_aload_n (x := 95) dX1_extend_71 rfl ?_
  refine s_iload (x := l4) dX1_extend_72 rfl ?_
  refine s_iload_n (x := l2) dX1_extend_74 rfl ?_
  exact s_callV (as := [zI l4, zI l2]) (st := []) (o := 95) dX1_extend_75 kX1_53 rfl ⟨1, 5, TX1, e95, rfl, by decide⟩ rfl rfl (Nat.le_of_ble_eq_true rfl) hS (show fr - 1 + 1 ≤ fr by omega) (Nat.zero_le _) (Nat.zero_le _) (fun v n' h' hP _ => by obtain ⟨e, rfl, hR⟩ := hP; cases e; exact kk h' hR) (fun E n' h' _ z => (rV_nt _ _ _ z).elim)
theorem bX1_extend_78 {fr M1 M2 b1 b2 : Nat} {Q : RS → Nat → AH → Prop} {h : AH} {x0 x1 x2 x3 x4 : AV}   (hq : Q (.inl none) 137 h) : Wp mX1_extend (kR fr M1 M2) Q (b1, b2) 78 [x0, x1, x2, x3, x4] [] 137 h := by
  refine s_fgt (fgt_n _ (fgt_n _ (fgt_n _ (fgt_n _ (fgt_n _ fgt_0))))) ?_
  exact s_return dX1_extend_78 rfl hq (fun z => by cases z)
theorem dX1_weigh_0 : decode mX1_weigh.cd 0 = .ok (.iload_n 1, 1) := by decide +kernel
theorem dX1_weigh_1 : decode mX1_weigh.cd 1 = .ok (.invokestatic 57, 3) := by decide +kernel
theorem dX1_weigh_4 : decode mX1_weigh.cd 4 = .ok (.istore_n 2, 1) := by decide +kernel
theorem dX1_weigh_5 : decode mX1_weigh.cd 5 = .ok (.iconst 0, 1) := by decide +kernel
theorem dX1_weigh_6 : decode mX1_weigh.cd 6 = .ok (.istore_n 3, 1) := by decide +kernel
theorem dX1_weigh_7 : decode mX1_weigh.cd 7 = .ok (.iload_n 1, 1) := by decide +kernel
theorem dX1_weigh_8 : decode mX1_weigh.cd 8 = .ok (.istore 4, 2) := by decide +kernel
theorem dX1_weigh_10 : decode mX1_weigh.cd 10 = .ok (.iload 4, 2) := by decide +kernel
theorem dX1_weigh_12 : decode mX1_weigh.cd 12 = .ok (.ifCond .eq 25, 3) := by decide +kernel
theorem dX1_weigh_15 : decode mX1_weigh.cd 15 = .ok (.iload_n 3, 1) := by decide +kernel
theorem dX1_weigh_16 : decode mX1_weigh.cd 16 = .ok (.iload 4, 2) := by decide +kernel
theorem dX1_weigh_18 : decode mX1_weigh.cd 18 = .ok (.invokestatic 65, 3) := by decide +kernel
theorem dX1_weigh_21 : decode mX1_weigh.cd 21 = .ok (.iconst 2, 1) := by decide +kernel
theorem dX1_weigh_22 : decode mX1_weigh.cd 22 = .ok (.iadd, 1) := by decide +kernel
theorem dX1_weigh_23 : decode mX1_weigh.cd 23 = .ok (.iadd, 1) := by decide +kernel
theorem dX1_weigh_24 : decode mX1_weigh.cd 24 = .ok (.istore_n 3, 1) := by decide +kernel
theorem dX1_weigh_25 : decode mX1_weigh.cd 25 = .ok (.iload 4, 2) := by decide +kernel
theorem dX1_weigh_27 : decode mX1_weigh.cd 27 = .ok (.iload 4, 2) := by decide +kernel
theorem dX1_weigh_29 : decode mX1_weigh.cd 29 = .ok (.iconst 1, 1) := by decide +kernel
theorem dX1_weigh_30 : decode mX1_weigh.cd 30 = .ok (.isub, 1) := by decide +kernel
theorem dX1_weigh_31 : decode mX1_weigh.cd 31 = .ok (.iand, 1) := by decide +kernel
theorem dX1_weigh_32 : decode mX1_weigh.cd 32 = .ok (.istore 4, 2) := by decide +kernel
theorem dX1_weigh_34 : decode mX1_weigh.cd 34 = .ok (.goto (-24), 3) := by decide +kernel
theorem dX1_weigh_37 : decode mX1_weigh.cd 37 = .ok (.iload_n 2, 1) := by decide +kernel
theorem dX1_weigh_38 : decode mX1_weigh.cd 38 = .ok (.aload_n 0, 1) := by decide +kernel
theorem dX1_weigh_39 : decode mX1_weigh.cd 39 = .ok (.getfield 46, 3) := by decide +kernel
theorem dX1_weigh_42 : decode mX1_weigh.cd 42 = .ok (.if_icmp .ne 7, 3) := by decide +kernel
theorem dX1_weigh_45 : decode mX1_weigh.cd 45 = .ok (.iconst 1, 1) := by decide +kernel
theorem dX1_weigh_46 : decode mX1_weigh.cd 46 = .ok (.goto 4, 3) := by decide +kernel
theorem dX1_weigh_49 : decode mX1_weigh.cd 49 = .ok (.iconst 0, 1) := by decide +kernel
theorem dX1_weigh_50 : decode mX1_weigh.cd 50 = .ok (.istore 4, 2) := by decide +kernel
theorem dX1_weigh_52 : decode mX1_weigh.cd 52 = .ok (.iload_n 2, 1) := by decide +kernel
theorem dX1_weigh_53 : decode mX1_weigh.cd 53 = .ok (.aload_n 0, 1) := by decide +kernel
theorem dX1_weigh_54 : decode mX1_weigh.cd 54 = .ok (.getfield 46, 3) := by decide +kernel
theorem dX1_weigh_57 : decode mX1_weigh.cd 57 = .ok (.if_icmp .gt 32, 3) := by decide +kernel
theorem dX1_weigh_60 : decode mX1_weigh.cd 60 = .ok (.iload 4, 2) := by decide +kernel
theorem dX1_weigh_62 : decode mX1_weigh.cd 62 = .ok (.ifCond .eq 42, 3) := by decide +kernel
theorem dX1_weigh_65 : decode mX1_weigh.cd 65 = .ok (.iload_n 3, 1) := by decide +kernel
theorem dX1_weigh_66 : decode mX1_weigh.cd 66 = .ok (.aload_n 0, 1) := by decide +kernel
theorem dX1_weigh_67 : decode mX1_weigh.cd 67 = .ok (.getfield 49, 3) := by decide +kernel
theorem dX1_weigh_70 : decode mX1_weigh.cd 70 = .ok (.if_icmp .lt 19, 3) := by decide +kernel
theorem dX1_weigh_73 : decode mX1_weigh.cd 73 = .ok (.iload_n 3, 1) := by decide +kernel
theorem dX1_weigh_74 : decode mX1_weigh.cd 74 = .ok (.aload_n 0, 1) := by decide +kernel
theorem dX1_weigh_75 : decode mX1_weigh.cd 75 = .ok (.getfield 49, 3) := by decide +kernel
theorem dX1_weigh_78 : decode mX1_weigh.cd 78 = .ok (.if_icmp .ne 26, 3) := by decide +kernel
theorem dX1_weigh_81 : decode mX1_weigh.cd 81 = .ok (.iload_n 1, 1) := by decide +kernel
theorem dX1_weigh_82 : decode mX1_weigh.cd 82 = .ok (.aload_n 0, 1) := by decide +kernel
theorem dX1_weigh_83 : decode mX1_weigh.cd 83 = .ok (.getfield 42, 3) := by decide +kernel
theorem dX1_weigh_86 : decode mX1_weigh.cd 86 = .ok (.if_icmp .ge 18, 3) := by decide +kernel
theorem dX1_weigh_89 : decode mX1_weigh.cd 89 = .ok (.aload_n 0, 1) := by decide +kernel
theorem dX1_weigh_90 : decode mX1_weigh.cd 90 = .ok (.iload_n 1, 1) := by decide +kernel
theorem dX1_weigh_91 : decode mX1_weigh.cd 91 = .ok (.putfield 42, 3) := by decide +kernel
theorem dX1_weigh_94 : decode mX1_weigh.cd 94 = .ok (.aload_n 0, 1) := by decide +kernel
theorem dX1_weigh_95 : decode mX1_weigh.cd 95 = .ok (.iload_n 2, 1) := by decide +kernel
theorem dX1_weigh_96 : decode mX1_weigh.cd 96 = .ok (.putfield 46, 3) := by decide +kernel
theorem dX1_weigh_99 : decode mX1_weigh.cd 99 = .ok (.aload_n 0, 1) := by decide +kernel
theorem dX1_weigh_100 : decode mX1_weigh.cd 100 = .ok (.iload_n 3, 1) := by decide +kernel
theorem dX1_weigh_101 : decode mX1_weigh.cd 101 = .ok (.putfield 49, 3) := by decide +kernel
theorem dX1_weigh_104 : decode mX1_weigh.cd 104 = .ok (.return_, 1) := by decide +kernel
theorem bX1_weigh_0 {fr M1 M2 b1 b2 : Nat} {Q : RS → Nat → AH → Prop} {h : AH} {l1 : Int} {x2 x3 x4 : AV} {R : Int → AH → Prop}   (hS : Sp mJ6_bitCount_0f7a4 true (fr - 1) 0 0 [zI l1] 137 h (rI R)) (hf : 1 ≤ fr := by omega) (kk : ∀ (x : Int) (h' : AH), R x h' → Wp mX1_weigh (kR fr M1 M2) Q (b1, b2) 4 [zR 95, zI l1, none, none, none] [zI x] 137 h') : Wp mX1_weigh (kR fr M1 M2) Q (b1, b2) 0 [zR 95, zI l1, x2, x3, x4] [] 137 h := by
  refine s_fgt (fgt_c (fgt_c (fgt_n _ (fgt_n _ (fgt_n _ fgt_0))))) ?_
  refine s_iload_n (x := l1) dX1_weigh_0 rfl ?_
  exact s_callS (as := [zI l1]) (st := []) dX1_weigh_1 kX1_57 rfl rfl (Nat.le_of_ble_eq_true rfl) hS (show fr - 1 + 1 ≤ fr by omega) (Nat.zero_le _) (Nat.zero_le _) (fun v n' h' hP _ => by obtain ⟨x, e, rfl, hR⟩ := hP; cases e; exact kk x h' hR) (fun E n' h' _ z => (rI_nt _ _ _ z).elim)
theorem bX1_weigh_4 {fr M1 M2 b1 b2 : Nat} {Q : RS → Nat → AH → Prop} {h : AH} {l1 s0 : Int} {x2 x3 x4 : AV}   (kk : Wp mX1_weigh (kR fr M1 M2) Q (b1, b2) 10 [zR 95, zI l1, zI s0, zI 0, zI l1] [] 137 h) : Wp mX1_weigh (kR fr M1 M2) Q (b1, b2) 4 [zR 95, zI l1, x2, x3, x4] [zI s0] 137 h := by
  refine s_fgt (fgt_c (fgt_c (fgt_n _ (fgt_n _ (fgt_n _ fgt_0))))) ?_
  refine s_istore_n dX1_weigh_4 rfl (by decide) ?_
  refine s_iconst dX1_weigh_5 ?_
  refine s_istore_n dX1_weigh_6 rfl (by decide) ?_
  refine s_iload_n (x := l1) dX1_weigh_7 rfl ?_
  refine s_istore dX1_weigh_8 rfl (by decide) ?_
  exact kk
theorem bX1_weigh_10 {fr M1 M2 b1 b2 : Nat} {Q : RS → Nat → AH → Prop} {h : AH} {l1 l2 l3 l4 : Int}  (r1 : -2147483648 ≤ l4 ∧ l4 < 2147483648 := by omega) (kt : l4 = 0 → Wp mX1_weigh (kR fr M1 M2) Q (b1, b2) 37 [zR 95, zI l1, zI l2, zI l3, zI l4] [] 137 h) (kf : ¬ l4 = 0 → Wp mX1_weigh (kR fr M1 M2) Q (b1, b2) 15 [zR 95, zI l1, zI l2, zI l3, zI l4] [] 137 h) : Wp mX1_weigh (kR fr M1 M2) Q (b1, b2) 10 [zR 95, zI l1, zI l2, zI l3, zI l4] [] 137 h := by
  refine s_iload (x := l4) dX1_weigh_10 rfl ?_
  exact s_if_eq (tgt := 37) dX1_weigh_12 (by decide) r1 kt kf
theorem bX1_weigh_15 {fr M1 M2 b1 b2 : Nat} {Q : RS → Nat → AH → Prop} {h : AH} {l1 l2 l3 l4 : Int} {R : Int → AH → Prop}   (hS : Sp mX11_lowestBit true (fr - 1) 0 0 [zI l4] 137 h (rI R)) (hf : 1 ≤ fr := by omega) (kk : ∀ (x : Int) (h' : AH), R x h' → Wp mX1_weigh (kR fr M1 M2) Q (b1, b2) 21 [zR 95, zI l1, zI l2, zI l3, zI l4] [zI x, zI l3] 137 h') : Wp mX1_weigh (kR fr M1 M2) Q (b1, b2) 15 [zR 95, zI l1, zI l2, zI l3, zI l4] [] 137 h := by
  refine s_iload_n (x := l3) dX1_weigh_15 rfl ?_
  refine s_iload (x := l4) dX1_weigh_16 rfl ?_
  exact s_callSN (host := "EchoGorge") (as := [zI l4]) (st := [zI l3]) dX1_weigh_18 (by decide +kernel) kX1_65.1 kX1_65.2 rfl rfl rfl (Nat.le_of_ble_eq_true rfl) hS rI_nt (show fr - 1 + 1 ≤ fr by omega) (Nat.zero_le _) (Nat.zero_le _) (fun v n' h' hP _ => by obtain ⟨x, e, rfl, hR⟩ := hP; cases e; exact kk x h' hR)
theorem bX1_weigh_21 {fr M1 M2 b1 b2 : Nat} {Q : RS → Nat → AH → Prop} {h : AH} {l1 l2 l4 s1 s0 : Int} {x3 : AV}   (kk : Wp mX1_weigh (kR fr M1 M2) Q (b1, b2) 10 [zR 95, zI l1, zI l2, zI (s1 + (s0 + 2)), zI (bAnd l4 (l4 - 1))] [] 137 h) : Wp mX1_weigh (kR fr M1 M2) Q (b1, b2) 21 [zR 95, zI l1, zI l2, x3, zI l4] [zI s0, zI s1] 137 h := by
  refine s_fgt (fgt_c (fgt_c (fgt_c (fgt_n _ (fgt_c fgt_0))))) ?_
  refine s_iconst dX1_weigh_21 ?_
  refine s_iadd dX1_weigh_22 ?_
  refine s_iadd dX1_weigh_23 ?_
  refine s_istore_n dX1_weigh_24 rfl (by decide) ?_
  refine s_iload (x := l4) dX1_weigh_25 rfl ?_
  refine s_iload (x := l4) dX1_weigh_27 rfl ?_
  refine s_iconst dX1_weigh_29 ?_
  refine s_isub dX1_weigh_30 ?_
  refine s_iand dX1_weigh_31 ?_
  refine s_istore dX1_weigh_32 rfl (by decide) ?_
  exact s_goto (tgt := 10) dX1_weigh_34 (by decide) kk
theorem bX1_weigh_37 {fr M1 M2 b1 b2 : Nat} {Q : RS → Nat → AH → Prop} {h : AH} {l1 l2 l3 : Int} {x4 : AV}  (r1 : -2147483648 ≤ l2 ∧ l2 < 2147483648 := by omega) (r2 : -2147483648 ≤ h 95 3 ∧ h 95 3 < 2147483648 := by omega) (kt : ¬ l2 = h 95 3 → Wp mX1_weigh (kR fr M1 M2) Q (b1, b2) 49 [zR 95, zI l1, zI l2, zI l3, none] [] 137 h) (kf : l2 = h 95 3 → Wp mX1_weigh (kR fr M1 M2) Q (b1, b2) 45 [zR 95, zI l1, zI l2, zI l3, none] [] 137 h) : Wp mX1_weigh (kR fr M1 M2) Q (b1, b2) 37 [zR 95, zI l1, zI l2, zI l3, x4] [] 137 h := by
  refine s_fgt (fgt_c (fgt_c (fgt_c (fgt_c (fgt_n _ fgt_0))))) ?_
  refine s_iload_n (x := l2) dX1_weigh_37 rfl ?_
  refine s_aload_n (x := 95) dX1_weigh_38 rfl ?_
  refine s_get (c := 95) dX1_weigh_39 lX1_46 e95 (by decide) ?_
  exact s_icmp_ne (tgt := 49) dX1_weigh_42 (by decide) r1 r2 kt kf
theorem bX1_weigh_45 {fr M1 M2 b1 b2 : Nat} {Q : RS → Nat → AH → Prop} {h : AH} {l1 l2 l3 : Int} {x4 : AV}   (kk : Wp mX1_weigh (kR fr M1 M2) Q (b1, b2) 50 [zR 95, zI l1, zI l2, zI l3, none] [zI 1] 137 h) : Wp mX1_weigh (kR fr M1 M2) Q (b1, b2) 45 [zR 95, zI l1, zI l2, zI l3, x4] [] 137 h := by
  refine s_fgt (fgt_c (fgt_c (fgt_c (fgt_c (fgt_n _ fgt_0))))) ?_
  refine s_iconst dX1_weigh_45 ?_
  exact s_goto (tgt := 50) dX1_weigh_46 (by decide) kk
theorem bX1_weigh_49 {fr M1 M2 b1 b2 : Nat} {Q : RS → Nat → AH → Prop} {h : AH} {l1 l2 l3 : Int} {x4 : AV}   (kk : Wp mX1_weigh (kR fr M1 M2) Q (b1, b2) 50 [zR 95, zI l1, zI l2, zI l3, none] [zI 0] 137 h) : Wp mX1_weigh (kR fr M1 M2) Q (b1, b2) 49 [zR 95, zI l1, zI l2, zI l3, x4] [] 137 h := by
  refine s_fgt (fgt_c (fgt_c (fgt_c (fgt_c (fgt_n _ fgt_0))))) ?_
  refine s_iconst dX1_weigh_49 ?_
  exact kk
theorem bX1_weigh_50 {fr M1 M2 b1 b2 : Nat} {Q : RS → Nat → AH → Prop} {h : AH} {l1 l2 l3 s0 : Int} {x4 : AV}  (r1 : -2147483648 ≤ l2 ∧ l2 < 2147483648 := by omega) (r2 : -2147483648 ≤ h 95 3 ∧ h 95 3 < 2147483648 := by omega) (kt : h 95 3 < l2 → Wp mX1_weigh (kR fr M1 M2) Q (b1, b2) 89 [zR 95, zI l1, zI l2, zI l3, zI s0] [] 137 h) (kf : l2 ≤ h 95 3 → Wp mX1_weigh (kR fr M1 M2) Q (b1, b2) 60 [zR 95, zI l1, zI l2, zI l3, zI s0] [] 137 h) : Wp mX1_weigh (kR fr M1 M2) Q (b1, b2) 50 [zR 95, zI l1, zI l2, zI l3, x4] [zI s0] 137 h := by
  refine s_fgt (fgt_c (fgt_c (fgt_c (fgt_c (fgt_n _ fgt_0))))) ?_
  refine s_istore dX1_weigh_50 rfl (by decide) ?_
  refine s_iload_n (x := l2) dX1_weigh_52 rfl ?_
  refine s_aload_n (x := 95) dX1_weigh_53 rfl ?_
  refine s_get (c := 95) dX1_weigh_54 lX1_46 e95 (by decide) ?_
  exact s_icmp_gt (tgt := 89) dX1_weigh_57 (by decide) r1 r2 kt kf
theorem bX1_weigh_60 {fr M1 M2 b1 b2 : Nat} {Q : RS → Nat → AH → Prop} {h : AH} {l1 l2 l3 l4 : Int}  (r1 : -2147483648 ≤ l4 ∧ l4 < 2147483648 := by omega) (kt : l4 = 0 → Wp mX1_weigh (kR fr M1 M2) Q (b1, b2) 104 [zR 95, zI l1, zI l2, zI l3, zI l4] [] 137 h) (kf : ¬ l4 = 0 → Wp mX1_weigh (kR fr M1 M2) Q (b1, b2) 65 [zR 95, zI l1, zI l2, zI l3, zI l4] [] 137 h) : Wp mX1_weigh (kR fr M1 M2) Q (b1, b2) 60 [zR 95, zI l1, zI l2, zI l3, zI l4] [] 137 h := by
  refine s_iload (x := l4) dX1_weigh_60 rfl ?_
  exact s_if_eq (tgt := 104) dX1_weigh_62 (by decide) r1 kt kf
theorem bX1_weigh_65 {fr M1 M2 b1 b2 : Nat} {Q : RS → Nat → AH → Prop} {h : AH} {l1 l2 l3 : Int} {x4 : AV}  (r1 : -2147483648 ≤ l3 ∧ l3 < 2147483648 := by omega) (r2 : -2147483648 ≤ h 95 4 ∧ h 95 4 < 2147483648 := by omega) (kt : l3 < h 95 4 → Wp mX1_weigh (kR fr M1 M2) Q (b1, b2) 89 [zR 95, zI l1, zI l2, zI l3, none] [] 137 h) (kf : h 95 4 ≤ l3 → Wp mX1_weigh (kR fr M1 M2) Q (b1, b2) 73 [zR 95, zI l1, zI l2, zI l3, none] [] 137 h) : Wp mX1_weigh (kR fr M1 M2) Q (b1, b2) 65 [zR 95, zI l1, zI l2, zI l3, x4] [] 137 h := by
  refine s_fgt (fgt_c (fgt_c (fgt_c (fgt_c (fgt_n _ fgt_0))))) ?_
  refine s_iload_n (x := l3) dX1_weigh_65 rfl ?_
  refine s_aload_n (x := 95) dX1_weigh_66 rfl ?_
  refine s_get (c := 95) dX1_weigh_67 lX1_49 e95 (by decide) ?_
  exact s_icmp_lt (tgt := 89) dX1_weigh_70 (by decide) r1 r2 kt kf
theorem bX1_weigh_73 {fr M1 M2 b1 b2 : Nat} {Q : RS → Nat → AH → Prop} {h : AH} {l1 l2 l3 : Int} {x4 : AV}  (r1 : -2147483648 ≤ l3 ∧ l3 < 2147483648 := by omega) (r2 : -2147483648 ≤ h 95 4 ∧ h 95 4 < 2147483648 := by omega) (kt : ¬ l3 = h 95 4 → Wp mX1_weigh (kR fr M1 M2) Q (b1, b2) 104 [zR 95, zI l1, zI l2, zI l3, none] [] 137 h) (kf : l3 = h 95 4 → Wp mX1_weigh (kR fr M1 M2) Q (b1, b2) 81 [zR 95, zI l1, zI l2, zI l3, none] [] 137 h) : Wp mX1_weigh (kR fr M1 M2) Q (b1, b2) 73 [zR 95, zI l1, zI l2, zI l3, x4] [] 137 h := by
  refine s_fgt (fgt_c (fgt_c (fgt_c (fgt_c (fgt_n _ fgt_0))))) ?_
  refine s_iload_n (x := l3) dX1_weigh_73 rfl ?_
  refine s_aload_n (x := 95) dX1_weigh_74 rfl ?_
  refine s_get (c := 95) dX1_weigh_75 lX1_49 e95 (by decide) ?_
  exact s_icmp_ne (tgt := 104) dX1_weigh_78 (by decide) r1 r2 kt kf
theorem bX1_weigh_81 {fr M1 M2 b1 b2 : Nat} {Q : RS → Nat → AH → Prop} {h : AH} {l1 l2 l3 : Int} {x4 : AV}  (r1 : -2147483648 ≤ l1 ∧ l1 < 2147483648 := by omega) (r2 : -2147483648 ≤ h 95 2 ∧ h 95 2 < 2147483648 := by omega) (kt : h 95 2 ≤ l1 → Wp mX1_weigh (kR fr M1 M2) Q (b1, b2) 104 [zR 95, zI l1, zI l2, zI l3, none] [] 137 h) (kf : l1 < h 95 2 → Wp mX1_weigh (kR fr M1 M2) Q (b1, b2) 89 [zR 95, zI l1, zI l2, zI l3, none] [] 137 h) : Wp mX1_weigh (kR fr M1 M2) Q (b1, b2) 81 [zR 95, zI l1, zI l2, zI l3, x4] [] 137 h := by
  refine s_fgt (fgt_c (fgt_c (fgt_c (fgt_c (fgt_n _ fgt_0))))) ?_
  refine s_iload_n (x := l1) dX1_weigh_81 rfl ?_
  refine s_aload_n (x := 95) dX1_weigh_82 rfl ?_
  refine s_get (c := 95) dX1_weigh_83 lX1_42 e95 (by decide) ?_
  exact s_icmp_ge (tgt := 104) dX1_weigh_86 (by decide) r1 r2 kt kf
theorem bX1_weigh_89 {fr M1 M2 b1 b2 : Nat} {Q : RS → Nat → AH → Prop} {h : AH} {l1 l2 l3 : Int} {x4 : AV}   (kk : Wp mX1_weigh (kR fr M1 M2) Q (b1, b2) 104 [zR 95, zI l1, zI l2, zI l3, none] [] 137 (up (up (up h 95 2 l1) 95 3 l2) 95 4 l3)) : Wp mX1_weigh (kR fr M1 M2) Q (b1, b2) 89 [zR 95, zI l1, zI l2, zI l3, x4] [] 137 h := by
  refine s_fgt (fgt_c (fgt_c (fgt_c (fgt_c (fgt_n _ fgt_0))))) ?_
  refine s_aload_n (x := 95) dX1_weigh_89 rfl ?_
  refine s_iload_n (x := l1) dX1_weigh_90 rfl ?_
  refine s_put (c := 95) dX1_weigh_91 lX1_42 e95 ?_
  refine s_aload_n (x := 95) dX1_weigh_94 rfl ?_
  refine s_iload_n (x := l2) dX1_weigh_95 rfl ?_
  refine s_put (c := 95) dX1_weigh_96 lX1_46 e95 ?_
  refine s_aload_n (x := 95) dX1_weigh_99 rfl ?_
  refine s_iload_n (x := l3) dX1_weigh_100 rfl ?_
  refine s_put (c := 95) dX1_weigh_101 lX1_49 e95 ?_
  exact kk
theorem bX1_weigh_104 {fr M1 M2 b1 b2 : Nat} {Q : RS → Nat → AH → Prop} {h : AH} {x0 x1 x2 x3 x4 : AV}   (hq : Q (.inl none) 137 h) : Wp mX1_weigh (kR fr M1 M2) Q (b1, b2) 104 [x0, x1, x2, x3, x4] [] 137 h := by
  refine s_fgt (fgt_n _ (fgt_n _ (fgt_n _ (fgt_n _ (fgt_n _ fgt_0))))) ?_
  exact s_return dX1_weigh_104 rfl hq (fun z => by cases z)
theorem dX3_forget_0 : decode mX3_forget.cd 0 = .ok (.aload_n 0, 1) := by decide +kernel
theorem dX3_forget_1 : decode mX3_forget.cd 1 = .ok (.iconst 0, 1) := by decide +kernel
theorem dX3_forget_2 : decode mX3_forget.cd 2 = .ok (.putfield 22, 3) := by decide +kernel
theorem dX3_forget_5 : decode mX3_forget.cd 5 = .ok (.return_, 1) := by decide +kernel
theorem bX3_forget_0 {fr M1 M2 b1 b2 : Nat} {Q : RS → Nat → AH → Prop} {h : AH}   (hq : Q (.inl none) 137 (up h 82 2 0)) : Wp mX3_forget (kR fr M1 M2) Q (b1, b2) 0 [zR 82] [] 137 h := by
  refine s_aload_n (x := 82) dX3_forget_0 rfl ?_
  refine s_iconst dX3_forget_1 ?_
  refine s_putZ (c := 82) dX3_forget_2 lX3_22 e82 (by decide) ?_
  exact s_return dX3_forget_5 rfl hq (fun z => by cases z)
theorem dX3_find_0 : decode mX3_find.cd 0 = .ok (.aload_n 0, 1) := by decide +kernel
theorem dX3_find_1 : decode mX3_find.cd 1 = .ok (.getfield 22, 3) := by decide +kernel
theorem dX3_find_4 : decode mX3_find.cd 4 = .ok (.ifCond .eq 13, 3) := by decide +kernel
theorem dX3_find_7 : decode mX3_find.cd 7 = .ok (.aload_n 0, 1) := by decide +kernel
theorem dX3_find_8 : decode mX3_find.cd 8 = .ok (.getfield 26, 3) := by decide +kernel
theorem dX3_find_11 : decode mX3_find.cd 11 = .ok (.iload 4, 2) := by decide +kernel
theorem dX3_find_13 : decode mX3_find.cd 13 = .ok (.if_icmp .ne 4, 3) := by decide +kernel
theorem dX3_find_16 : decode mX3_find.cd 16 = .ok (.return_, 1) := by decide +kernel
theorem dX3_find_17 : decode mX3_find.cd 17 = .ok (.aload_n 0, 1) := by decide +kernel
theorem dX3_find_18 : decode mX3_find.cd 18 = .ok (.iconst 1, 1) := by decide +kernel
theorem dX3_find_19 : decode mX3_find.cd 19 = .ok (.putfield 22, 3) := by decide +kernel
theorem dX3_find_22 : decode mX3_find.cd 22 = .ok (.aload_n 0, 1) := by decide +kernel
theorem dX3_find_23 : decode mX3_find.cd 23 = .ok (.iload 4, 2) := by decide +kernel
theorem dX3_find_25 : decode mX3_find.cd 25 = .ok (.putfield 26, 3) := by decide +kernel
theorem dX3_find_28 : decode mX3_find.cd 28 = .ok (.aload_n 0, 1) := by decide +kernel
theorem dX3_find_29 : decode mX3_find.cd 29 = .ok (.getfield 9, 3) := by decide +kernel
theorem dX3_find_32 : decode mX3_find.cd 32 = .ok (.iconst 0, 1) := by decide +kernel
theorem dX3_find_33 : decode mX3_find.cd 33 = .ok (.iconst 0, 1) := by decide +kernel
theorem dX3_find_34 : decode mX3_find.cd 34 = .ok (.iastore, 1) := by decide +kernel
theorem dX3_find_35 : decode mX3_find.cd 35 = .ok (.aload_n 0, 1) := by decide +kernel
theorem dX3_find_36 : decode mX3_find.cd 36 = .ok (.getfield 9, 3) := by decide +kernel
theorem dX3_find_39 : decode mX3_find.cd 39 = .ok (.iconst 1, 1) := by decide +kernel
theorem dX3_find_40 : decode mX3_find.cd 40 = .ok (.iconst (-1), 1) := by decide +kernel
theorem dX3_find_41 : decode mX3_find.cd 41 = .ok (.iastore, 1) := by decide +kernel
theorem dX3_find_42 : decode mX3_find.cd 42 = .ok (.aload_n 0, 1) := by decide +kernel
theorem dX3_find_43 : decode mX3_find.cd 43 = .ok (.getfield 9, 3) := by decide +kernel
theorem dX3_find_46 : decode mX3_find.cd 46 = .ok (.iconst 2, 1) := by decide +kernel
theorem dX3_find_47 : decode mX3_find.cd 47 = .ok (.iconst 0, 1) := by decide +kernel
theorem dX3_find_48 : decode mX3_find.cd 48 = .ok (.iastore, 1) := by decide +kernel
theorem dX3_find_49 : decode mX3_find.cd 49 = .ok (.aload_n 0, 1) := by decide +kernel
theorem dX3_find_50 : decode mX3_find.cd 50 = .ok (.getfield 9, 3) := by decide +kernel
theorem dX3_find_53 : decode mX3_find.cd 53 = .ok (.iconst 3, 1) := by decide +kernel
theorem dX3_find_54 : decode mX3_find.cd 54 = .ok (.iconst (-1), 1) := by decide +kernel
theorem dX3_find_55 : decode mX3_find.cd 55 = .ok (.iastore, 1) := by decide +kernel
theorem dX3_find_56 : decode mX3_find.cd 56 = .ok (.aload_n 0, 1) := by decide +kernel
theorem dX3_find_57 : decode mX3_find.cd 57 = .ok (.iconst 0, 1) := by decide +kernel
theorem dX3_find_58 : decode mX3_find.cd 58 = .ok (.putfield 30, 3) := by decide +kernel
theorem dX3_find_61 : decode mX3_find.cd 61 = .ok (.aload_n 0, 1) := by decide +kernel
theorem dX3_find_62 : decode mX3_find.cd 62 = .ok (.getfield 18, 3) := by decide +kernel
theorem dX3_find_65 : decode mX3_find.cd 65 = .ok (.aload_n 1, 1) := by decide +kernel
theorem dX3_find_66 : decode mX3_find.cd 66 = .ok (.iload 4, 2) := by decide +kernel
theorem dX3_find_68 : decode mX3_find.cd 68 = .ok (.aload_n 1, 1) := by decide +kernel
theorem dX3_find_69 : decode mX3_find.cd 69 = .ok (.getfield 33, 3) := by decide +kernel
theorem dX3_find_72 : decode mX3_find.cd 72 = .ok (.bipush 12, 2) := by decide +kernel
theorem dX3_find_74 : decode mX3_find.cd 74 = .ok (.iaload, 1) := by decide +kernel
theorem dX3_find_75 : decode mX3_find.cd 75 = .ok (.invokevirtual 38, 3) := by decide +kernel
theorem dX3_find_78 : decode mX3_find.cd 78 = .ok (.aload_n 0, 1) := by decide +kernel
theorem dX3_find_79 : decode mX3_find.cd 79 = .ok (.aload_n 1, 1) := by decide +kernel
theorem dX3_find_80 : decode mX3_find.cd 80 = .ok (.aload_n 2, 1) := by decide +kernel
theorem dX3_find_81 : decode mX3_find.cd 81 = .ok (.aload_n 3, 1) := by decide +kernel
theorem dX3_find_82 : decode mX3_find.cd 82 = .ok (.invokevirtual 42, 3) := by decide +kernel
theorem dX3_find_85 : decode mX3_find.cd 85 = .ok (.aload_n 0, 1) := by decide +kernel
theorem dX3_find_86 : decode mX3_find.cd 86 = .ok (.getfield 9, 3) := by decide +kernel
theorem dX3_find_89 : decode mX3_find.cd 89 = .ok (.iconst 0, 1) := by decide +kernel
theorem dX3_find_90 : decode mX3_find.cd 90 = .ok (.iaload, 1) := by decide +kernel
theorem dX3_find_91 : decode mX3_find.cd 91 = .ok (.ifCond .ne 10, 3) := by decide +kernel
theorem dX3_find_94 : decode mX3_find.cd 94 = .ok (.aload_n 0, 1) := by decide +kernel
theorem dX3_find_95 : decode mX3_find.cd 95 = .ok (.getfield 9, 3) := by decide +kernel
theorem dX3_find_98 : decode mX3_find.cd 98 = .ok (.iconst 1, 1) := by decide +kernel
theorem dX3_find_99 : decode mX3_find.cd 99 = .ok (.iconst 0, 1) := by decide +kernel
theorem dX3_find_100 : decode mX3_find.cd 100 = .ok (.iastore, 1) := by decide +kernel
theorem dX3_find_101 : decode mX3_find.cd 101 = .ok (.aload_n 0, 1) := by decide +kernel
theorem dX3_find_102 : decode mX3_find.cd 102 = .ok (.aload_n 1, 1) := by decide +kernel
theorem dX3_find_103 : decode mX3_find.cd 103 = .ok (.invokevirtual 46, 3) := by decide +kernel
theorem dX3_find_106 : decode mX3_find.cd 106 = .ok (.return_, 1) := by decide +kernel
theorem bX3_find_0 {fr M1 M2 b1 b2 : Nat} {Q : RS → Nat → AH → Prop} {h : AH} {l1 l2 l4 : Int}  (r1 : -2147483648 ≤ h 82 2 ∧ h 82 2 < 2147483648 := by omega) (kt : h 82 2 = 0 → Wp mX3_find (kR fr M1 M2) Q (b1, b2) 17 [zR 82, zR l1, zR l2, zR 51, zI l4] [] 137 h) (kf : ¬ h 82 2 = 0 → Wp mX3_find (kR fr M1 M2) Q (b1, b2) 7 [zR 82, zR l1, zR l2, zR 51, zI l4] [] 137 h) : Wp mX3_find (kR fr M1 M2) Q (b1, b2) 0 [zR 82, zR l1, zR l2, zR 51, zI l4] [] 137 h := by
  refine s_aload_n (x := 82) dX3_find_0 rfl ?_
  refine s_get (c := 82) dX3_find_1 lX3_22 e82 (by decide) ?_
  exact s_if_eq (tgt := 17) dX3_find_4 (by decide) r1 kt kf
theorem bX3_find_7 {fr M1 M2 b1 b2 : Nat} {Q : RS → Nat → AH → Prop} {h : AH} {l1 l2 l4 : Int}  (r1 : -2147483648 ≤ h 82 3 ∧ h 82 3 < 2147483648 := by omega) (r2 : -2147483648 ≤ l4 ∧ l4 < 2147483648 := by omega) (kt : ¬ h 82 3 = l4 → Wp mX3_find (kR fr M1 M2) Q (b1, b2) 17 [zR 82, zR l1, zR l2, zR 51, zI l4] [] 137 h) (kf : h 82 3 = l4 → Wp mX3_find (kR fr M1 M2) Q (b1, b2) 16 [zR 82, zR l1, zR l2, zR 51, zI l4] [] 137 h) : Wp mX3_find (kR fr M1 M2) Q (b1, b2) 7 [zR 82, zR l1, zR l2, zR 51, zI l4] [] 137 h := by
  refine s_aload_n (x := 82) dX3_find_7 rfl ?_
  refine s_get (c := 82) dX3_find_8 lX3_26 e82 (by decide) ?_
  refine s_iload (x := l4) dX3_find_11 rfl ?_
  exact s_icmp_ne (tgt := 17) dX3_find_13 (by decide) r1 r2 kt kf
theorem bX3_find_16 {fr M1 M2 b1 b2 : Nat} {Q : RS → Nat → AH → Prop} {h : AH} {x0 x1 x2 x3 x4 : AV}   (hq : Q (.inl none) 137 h) : Wp mX3_find (kR fr M1 M2) Q (b1, b2) 16 [x0, x1, x2, x3, x4] [] 137 h := by
  refine s_fgt (fgt_n _ (fgt_n _ (fgt_n _ (fgt_n _ (fgt_n _ fgt_0))))) ?_
  exact s_return dX3_find_16 rfl hq (fun z => by cases z)
theorem bX3_find_17 {fr M1 M2 b1 b2 : Nat} {Q : RS → Nat → AH → Prop} {h : AH} {l1 l2 l4 : Int} {R : AH → Prop} (c1 : cel 137 l1 (2, 21) := by first | assumption | omega)  (hS : Sp mX7_prepareLike true (fr - 1) 0 0 [zR 84, zR l1, zI l4, zI ((up (up (up (up (up (up (up h 82 2 1) 82 3 l4) 83 0 0) 83 1 (-1)) 83 2 0) 83 3 (-1)) 82 5 0) (l1 + 9) 12)] 137 (up (up (up (up (up (up (up h 82 2 1) 82 3 l4) 83 0 0) 83 1 (-1)) 83 2 0) 83 3 (-1)) 82 5 0) (rV R)) (hf : 1 ≤ fr := by omega) (kk : ∀ h' : AH, R h' → Wp mX3_find (kR fr M1 M2) Q (b1, b2) 78 [zR 82, zR l1, zR l2, zR 51, zI l4] [] 137 h') : Wp mX3_find (kR fr M1 M2) Q (b1, b2) 17 [zR 82, zR l1, zR l2, zR 51, zI l4] [] 137 h := by
  refine s_aload_n (x := 82) dX3_find_17 rfl ?_
  refine s_iconst dX3_find_18 ?_
  refine s_putZ (c := 82) dX3_find_19 lX3_22 e82 (by decide) ?_
  refine s_aload_n (x := 82) dX3_find_22 rfl ?_
  refine s_iload (x := l4) dX3_find_23 rfl ?_
  refine s_put (c := 82) dX3_find_25 lX3_26 e82 ?_
  refine s_aload_n (x := 82) dX3_find_28 rfl ?_
  refine s_getFd (c := 82) (d := 83) dX3_find_29 lX3_9 e82 (Or.inl rfl) (by decide) (by decide) ?_
  refine s_iconst dX3_find_32 ?_
  refine s_iconst dX3_find_33 ?_
  refine s_iast (c := 83) (i := 0) dX3_find_34 e83 (by decide) (by decide) ?_
  refine s_aload_n (x := 82) dX3_find_35 rfl ?_
  refine s_getFd (c := 82) (d := 83) dX3_find_36 lX3_9 e82 (Or.inl rfl) (by decide) (by decide) ?_
  refine s_iconst dX3_find_39 ?_
  refine s_iconst dX3_find_40 ?_
  refine s_iast (c := 83) (i := 1) dX3_find_41 e83 (by decide) (by decide) ?_
  refine s_aload_n (x := 82) dX3_find_42 rfl ?_
  refine s_getFd (c := 82) (d := 83) dX3_find_43 lX3_9 e82 (Or.inl rfl) (by decide) (by decide) ?_
  refine s_iconst dX3_find_46 ?_
  refine s_iconst dX3_find_47 ?_
  refine s_iast (c := 83) (i := 2) dX3_find_48 e83 (by decide) (by decide) ?_
  refine s_aload_n (x := 82) dX3_find_49 rfl ?_
  refine s_getFd (c := 82) (d := 83) dX3_find_50 lX3_9 e82 (Or.inl rfl) (by decide) (by decide) ?_
  refine s_iconst dX3_find_53 ?_
  refine s_iconst dX3_find_54 ?_
  refine s_iast (c := 83) (i := 3) dX3_find_55 e83 (by decide) (by decide) ?_
  refine s_aload_n (x := 82) dX3_find_56 rfl ?_
  refine s_iconst dX3_find_57 ?_
  refine s_put (c := 82) dX3_find_58 lX3_30 e82 ?_
  refine s_aload_n (x := 82) dX3_find_61 rfl ?_
  refine s_getFd (c := 82) (d := 84) dX3_find_62 lX3_18 e82 (Or.inl rfl) (by decide) (by decide) ?_
  refine s_aload_n (x := l1) dX3_find_65 rfl ?_
  refine s_iload (x := l4) dX3_find_66 rfl ?_
  refine s_aload_n (x := l1) dX3_find_68 rfl ?_
  refine s_getFd (c := l1) (d := l1 + 9) dX3_find_69 lX3_33 c1 (Or.inl rfl) rfl (ne0 (fin_X2_15 c1)) ?_
  refine s_bipush dX3_find_72 (by decide) ?_
  refine s_iald (c := l1 + 9) (i := 12) dX3_find_74 (fin_X2_15 c1) (by decide) (by decide) ?_
  exact s_callV (as := [zR l1, zI l4, zI ((up (up (up (up (up (up (up h 82 2 1) 82 3 l4) 83 0 0) 83 1 (-1)) 83 2 0) 83 3 (-1)) 82 5 0) (l1 + 9) 12)]) (st := []) (o := 84) dX3_find_75 kX3_38 rfl ⟨7, 9, TX7, e84, rfl, by decide⟩ rfl rfl (Nat.le_of_ble_eq_true rfl) hS (show fr - 1 + 1 ≤ fr by omega) (Nat.zero_le _) (Nat.zero_le _) (fun v n' h' hP _ => by obtain ⟨e, rfl, hR⟩ := hP; cases e; exact kk h' hR) (fun E n' h' _ z => (rV_nt _ _ _ z).elim)
theorem bX3_find_78 {fr M1 M2 b1 b2 : Nat} {Q : RS → Nat → AH → Prop} {h : AH} {l1 l2 : Int} {x4 : AV} {R : AH → Prop}   (hS : Sp mX3_searchAll true (fr - 1) 0 0 [zR 82, zR l1, zR l2, zR 51] 137 h (rV R)) (hf : 1 ≤ fr := by omega) (kk : ∀ h' : AH, R h' → Wp mX3_find (kR fr M1 M2) Q (b1, b2) 85 [zR 82, zR l1, zR l2, zR 51, none] [] 137 h') : Wp mX3_find (kR fr M1 M2) Q (b1, b2) 78 [zR 82, zR l1, zR l2, zR 51, x4] [] 137 h := by
  refine s_fgt (fgt_c (fgt_c (fgt_c (fgt_c (fgt_n _ fgt_0))))) ?_
  refine s_aload_n (x := 82) dX3_find_78 rfl ?_
  refine s_aload_n (x := l1) dX3_find_79 rfl ?_
  refine s_aload_n (x := l2) dX3_find_80 rfl ?_
  refine s_aload_n (x := 51) dX3_find_81 rfl ?_
  exact s_callV (as := [zR l1, zR l2, zR 51]) (st := []) (o := 82) dX3_find_82 kX3_42 rfl ⟨3, 8, TX3, e82, rfl, by decide⟩ rfl rfl (Nat.le_of_ble_eq_true rfl) hS (show fr - 1 + 1 ≤ fr by omega) (Nat.zero_le _) (Nat.zero_le _) (fun v n' h' hP _ => by obtain ⟨e, rfl, hR⟩ := hP; cases e; exact kk h' hR) (fun E n' h' _ z => (rV_nt _ _ _ z).elim)
theorem bX3_find_85 {fr M1 M2 b1 b2 : Nat} {Q : RS → Nat → AH → Prop} {h : AH} {l1 : Int} {x2 x3 x4 : AV}  (r1 : -2147483648 ≤ h 83 0 ∧ h 83 0 < 2147483648 := by omega) (kt : ¬ h 83 0 = 0 → Wp mX3_find (kR fr M1 M2) Q (b1, b2) 101 [zR 82, zR l1, none, none, none] [] 137 h) (kf : h 83 0 = 0 → Wp mX3_find (kR fr M1 M2) Q (b1, b2) 94 [zR 82, zR l1, none, none, none] [] 137 h) : Wp mX3_find (kR fr M1 M2) Q (b1, b2) 85 [zR 82, zR l1, x2, x3, x4] [] 137 h := by
  refine s_fgt (fgt_c (fgt_c (fgt_n _ (fgt_n _ (fgt_n _ fgt_0))))) ?_
  refine s_aload_n (x := 82) dX3_find_85 rfl ?_
  refine s_getFd (c := 82) (d := 83) dX3_find_86 lX3_9 e82 (Or.inl rfl) (by decide) (by decide) ?_
  refine s_iconst dX3_find_89 ?_
  refine s_iald (c := 83) (i := 0) dX3_find_90 e83 (by decide) (by decide) ?_
  exact s_if_ne (tgt := 101) dX3_find_91 (by decide) r1 kt kf
theorem bX3_find_94 {fr M1 M2 b1 b2 : Nat} {Q : RS → Nat → AH → Prop} {h : AH} {l1 : Int} {x2 x3 x4 : AV}   (kk : Wp mX3_find (kR fr M1 M2) Q (b1, b2) 101 [zR 82, zR l1, none, none, none] [] 137 (up h 83 1 0)) : Wp mX3_find (kR fr M1 M2) Q (b1, b2) 94 [zR 82, zR l1, x2, x3, x4] [] 137 h := by
  refine s_fgt (fgt_c (fgt_c (fgt_n _ (fgt_n _ (fgt_n _ fgt_0))))) ?_
  refine s_aload_n (x := 82) dX3_find_94 rfl ?_
  refine s_getFd (c := 82) (d := 83) dX3_find_95 lX3_9 e82 (Or.inl rfl) (by decide) (by decide) ?_
  refine s_iconst dX3_find_98 ?_
  refine s_iconst dX3_find_99 ?_
  refine s_iast (c := 83) (i := 1) dX3_find_100 e83 (by decide) (by decide) ?_
  exact kk
theorem bX3_find_101 {fr M1 M2 b1 b2 : Nat} {Q : RS → Nat → AH → Prop} {h : AH} {l1 : Int} {x2 x3 x4 : AV} {R : AH → Prop}   (hS : Sp mX3_findNext true (fr - 1) 0 0 [zR 82, zR l1] 137 h (rV R)) (hf : 1 ≤ fr := by omega) (kk : ∀ h' : AH, R h' → Wp mX3_find (kR fr M1 M2) Q (b1, b2) 106 [zR 82, zR l1, none, none, none] [] 137 h') : Wp mX3_find (kR fr M1 M2) Q (b1, b2) 101 [zR 82, zR l1, x2, x3, x4] [] 137 h := by
  refine s_fgt (fgt_c (fgt_c (fgt_n _ (fgt_n _ (fgt_n _ fgt_0))))) ?_
  refine s_aload_n (x := 82) dX3_find_101 rfl ?_
  refine s_aload_n (x := l1) dX3_find_102 rfl ?_
  exact s_callV (as := [zR l1]) (st := []) (o := 82) dX3_find_103 kX3_46 rfl ⟨3, 8, TX3, e82, rfl, by decide⟩ rfl rfl (Nat.le_of_ble_eq_true rfl) hS (show fr - 1 + 1 ≤ fr by omega) (Nat.zero_le _) (Nat.zero_le _) (fun v n' h' hP _ => by obtain ⟨e, rfl, hR⟩ := hP; cases e; exact kk h' hR) (fun E n' h' _ z => (rV_nt _ _ _ z).elim)
theorem bX3_find_106 {fr M1 M2 b1 b2 : Nat} {Q : RS → Nat → AH → Prop} {h : AH} {x0 x1 x2 x3 x4 : AV}   (hq : Q (.inl none) 137 h) : Wp mX3_find (kR fr M1 M2) Q (b1, b2) 106 [x0, x1, x2, x3, x4] [] 137 h := by
  refine s_fgt (fgt_n _ (fgt_n _ (fgt_n _ (fgt_n _ (fgt_n _ fgt_0))))) ?_
  exact s_return dX3_find_106 rfl hq (fun z => by cases z)
theorem dX3_searchAll_0 : decode mX3_searchAll.cd 0 = .ok (.iconst 0, 1) := by decide +kernel
theorem dX3_searchAll_1 : decode mX3_searchAll.cd 1 = .ok (.istore 4, 2) := by decide +kernel
theorem dX3_searchAll_3 : decode mX3_searchAll.cd 3 = .ok (.iload 4, 2) := by decide +kernel
theorem dX3_searchAll_5 : decode mX3_searchAll.cd 5 = .ok (.bipush 20, 2) := by decide +kernel
theorem dX3_searchAll_7 : decode mX3_searchAll.cd 7 = .ok (.if_icmp .gt 126, 3) := by decide +kernel
theorem dX3_searchAll_10 : decode mX3_searchAll.cd 10 = .ok (.iconst 0, 1) := by decide +kernel
theorem dX3_searchAll_11 : decode mX3_searchAll.cd 11 = .ok (.istore 5, 2) := by decide +kernel
theorem dX3_searchAll_13 : decode mX3_searchAll.cd 13 = .ok (.iload 5, 2) := by decide +kernel
theorem dX3_searchAll_15 : decode mX3_searchAll.cd 15 = .ok (.iconst 1, 1) := by decide +kernel
theorem dX3_searchAll_16 : decode mX3_searchAll.cd 16 = .ok (.iload 4, 2) := by decide +kernel
theorem dX3_searchAll_18 : decode mX3_searchAll.cd 18 = .ok (.invokestatic 50, 3) := by decide +kernel
theorem dX3_searchAll_21 : decode mX3_searchAll.cd 21 = .ok (.if_icmp .ge 106, 3) := by decide +kernel
theorem dX3_searchAll_24 : decode mX3_searchAll.cd 24 = .ok (.bipush 60, 2) := by decide +kernel
theorem dX3_searchAll_26 : decode mX3_searchAll.cd 26 = .ok (.istore 6, 2) := by decide +kernel
theorem dX3_searchAll_28 : decode mX3_searchAll.cd 28 = .ok (.iconst 0, 1) := by decide +kernel
theorem dX3_searchAll_29 : decode mX3_searchAll.cd 29 = .ok (.istore 7, 2) := by decide +kernel
theorem dX3_searchAll_31 : decode mX3_searchAll.cd 31 = .ok (.iload 7, 2) := by decide +kernel
theorem dX3_searchAll_33 : decode mX3_searchAll.cd 33 = .ok (.iconst 1, 1) := by decide +kernel
theorem dX3_searchAll_34 : decode mX3_searchAll.cd 34 = .ok (.iload 5, 2) := by decide +kernel
theorem dX3_searchAll_36 : decode mX3_searchAll.cd 36 = .ok (.invokestatic 50, 3) := by decide +kernel
theorem dX3_searchAll_39 : decode mX3_searchAll.cd 39 = .ok (.if_icmp .ge 82, 3) := by decide +kernel
theorem dX3_searchAll_42 : decode mX3_searchAll.cd 42 = .ok (.iload 7, 2) := by decide +kernel
theorem dX3_searchAll_44 : decode mX3_searchAll.cd 44 = .ok (.iload 6, 2) := by decide +kernel
theorem dX3_searchAll_46 : decode mX3_searchAll.cd 46 = .ok (.if_icmp .gt 75, 3) := by decide +kernel
theorem dX3_searchAll_49 : decode mX3_searchAll.cd 49 = .ok (.aload_n 0, 1) := by decide +kernel
theorem dX3_searchAll_50 : decode mX3_searchAll.cd 50 = .ok (.getfield 18, 3) := by decide +kernel
theorem dX3_searchAll_53 : decode mX3_searchAll.cd 53 = .ok (.iload 7, 2) := by decide +kernel
theorem dX3_searchAll_55 : decode mX3_searchAll.cd 55 = .ok (.iload 5, 2) := by decide +kernel
theorem dX3_searchAll_57 : decode mX3_searchAll.cd 57 = .ok (.iload 4, 2) := by decide +kernel
theorem dX3_searchAll_59 : decode mX3_searchAll.cd 59 = .ok (.invokevirtual 56, 3) := by decide +kernel
theorem dX3_searchAll_62 : decode mX3_searchAll.cd 62 = .ok (.aload_n 0, 1) := by decide +kernel
theorem dX3_searchAll_63 : decode mX3_searchAll.cd 63 = .ok (.aload_n 1, 1) := by decide +kernel
theorem dX3_searchAll_64 : decode mX3_searchAll.cd 64 = .ok (.aload_n 2, 1) := by decide +kernel
theorem dX3_searchAll_65 : decode mX3_searchAll.cd 65 = .ok (.aload_n 3, 1) := by decide +kernel
theorem dX3_searchAll_66 : decode mX3_searchAll.cd 66 = .ok (.invokevirtual 60, 3) := by decide +kernel
theorem dX3_searchAll_69 : decode mX3_searchAll.cd 69 = .ok (.istore 8, 2) := by decide +kernel
theorem dX3_searchAll_71 : decode mX3_searchAll.cd 71 = .ok (.iload 8, 2) := by decide +kernel
theorem dX3_searchAll_73 : decode mX3_searchAll.cd 73 = .ok (.bipush 60, 2) := by decide +kernel
theorem dX3_searchAll_75 : decode mX3_searchAll.cd 75 = .ok (.if_icmp .ne 31, 3) := by decide +kernel
theorem dX3_searchAll_78 : decode mX3_searchAll.cd 78 = .ok (.aload_n 0, 1) := by decide +kernel
theorem dX3_searchAll_79 : decode mX3_searchAll.cd 79 = .ok (.iconst 1, 1) := by decide +kernel
theorem dX3_searchAll_80 : decode mX3_searchAll.cd 80 = .ok (.iload 4, 2) := by decide +kernel
theorem dX3_searchAll_82 : decode mX3_searchAll.cd 82 = .ok (.ishl, 1) := by decide +kernel
theorem dX3_searchAll_83 : decode mX3_searchAll.cd 83 = .ok (.iconst 1, 1) := by decide +kernel
theorem dX3_searchAll_84 : decode mX3_searchAll.cd 84 = .ok (.ishr, 1) := by decide +kernel
theorem dX3_searchAll_85 : decode mX3_searchAll.cd 85 = .ok (.iconst 1, 1) := by decide +kernel
theorem dX3_searchAll_86 : decode mX3_searchAll.cd 86 = .ok (.iload 5, 2) := by decide +kernel
theorem dX3_searchAll_88 : decode mX3_searchAll.cd 88 = .ok (.ishl, 1) := by decide +kernel
theorem dX3_searchAll_89 : decode mX3_searchAll.cd 89 = .ok (.iconst 1, 1) := by decide +kernel
theorem dX3_searchAll_90 : decode mX3_searchAll.cd 90 = .ok (.ishr, 1) := by decide +kernel
theorem dX3_searchAll_91 : decode mX3_searchAll.cd 91 = .ok (.ior, 1) := by decide +kernel
theorem dX3_searchAll_92 : decode mX3_searchAll.cd 92 = .ok (.iconst 1, 1) := by decide +kernel
theorem dX3_searchAll_93 : decode mX3_searchAll.cd 93 = .ok (.iload 7, 2) := by decide +kernel
theorem dX3_searchAll_95 : decode mX3_searchAll.cd 95 = .ok (.ishl, 1) := by decide +kernel
theorem dX3_searchAll_96 : decode mX3_searchAll.cd 96 = .ok (.iconst 1, 1) := by decide +kernel
theorem dX3_searchAll_97 : decode mX3_searchAll.cd 97 = .ok (.ishr, 1) := by decide +kernel
theorem dX3_searchAll_98 : decode mX3_searchAll.cd 98 = .ok (.ior, 1) := by decide +kernel
theorem dX3_searchAll_99 : decode mX3_searchAll.cd 99 = .ok (.aload_n 1, 1) := by decide +kernel
theorem dX3_searchAll_100 : decode mX3_searchAll.cd 100 = .ok (.getfield 64, 3) := by decide +kernel
theorem dX3_searchAll_103 : decode mX3_searchAll.cd 103 = .ok (.invokevirtual 67, 3) := by decide +kernel
theorem dX3_searchAll_106 : decode mX3_searchAll.cd 106 = .ok (.iload 7, 2) := by decide +kernel
theorem dX3_searchAll_108 : decode mX3_searchAll.cd 108 = .ok (.ifCond .ne 7, 3) := by decide +kernel
theorem dX3_searchAll_111 : decode mX3_searchAll.cd 111 = .ok (.iload 8, 2) := by decide +kernel
theorem dX3_searchAll_113 : decode mX3_searchAll.cd 113 = .ok (.istore 6, 2) := by decide +kernel
theorem dX3_searchAll_115 : decode mX3_searchAll.cd 115 = .ok (.iinc 7 1, 3) := by decide +kernel
theorem dX3_searchAll_118 : decode mX3_searchAll.cd 118 = .ok (.goto (-87), 3) := by decide +kernel
theorem dX3_searchAll_121 : decode mX3_searchAll.cd 121 = .ok (.iinc 5 1, 3) := by decide +kernel
theorem dX3_searchAll_124 : decode mX3_searchAll.cd 124 = .ok (.goto (-111), 3) := by decide +kernel
theorem dX3_searchAll_127 : decode mX3_searchAll.cd 127 = .ok (.iinc 4 1, 3) := by decide +kernel
theorem dX3_searchAll_130 : decode mX3_searchAll.cd 130 = .ok (.goto (-127), 3) := by decide +kernel
theorem dX3_searchAll_133 : decode mX3_searchAll.cd 133 = .ok (.return_, 1) := by decide +kernel
theorem bX3_searchAll_0 {fr M1 M2 b1 b2 : Nat} {Q : RS → Nat → AH → Prop} {h : AH} {l1 l2 : Int} {x4 x5 x6 x7 x8 : AV}   (kk : Wp mX3_searchAll (kR fr M1 M2) Q (b1, b2) 3 [zR 82, zR l1, zR l2, zR 51, zI 0, none, none, none, none] [] 137 h) : Wp mX3_searchAll (kR fr M1 M2) Q (b1, b2) 0 [zR 82, zR l1, zR l2, zR 51, x4, x5, x6, x7, x8] [] 137 h := by
  refine s_fgt (fgt_c (fgt_c (fgt_c (fgt_c (fgt_n _ (fgt_n _ (fgt_n _ (fgt_n _ (fgt_n _ fgt_0))))))))) ?_
  refine s_iconst dX3_searchAll_0 ?_
  refine s_istore dX3_searchAll_1 rfl (by decide) ?_
  exact kk
theorem bX3_searchAll_3 {fr M1 M2 b1 b2 : Nat} {Q : RS → Nat → AH → Prop} {h : AH} {l1 l2 l4 : Int} {x5 x6 x7 x8 : AV}  (r1 : -2147483648 ≤ l4 ∧ l4 < 2147483648 := by omega) (kt : 20 < l4 → Wp mX3_searchAll (kR fr M1 M2) Q (b1, b2) 133 [zR 82, zR l1, zR l2, zR 51, zI l4, none, none, none, none] [] 137 h) (kf : l4 ≤ 20 → Wp mX3_searchAll (kR fr M1 M2) Q (b1, b2) 10 [zR 82, zR l1, zR l2, zR 51, zI l4, none, none, none, none] [] 137 h) : Wp mX3_searchAll (kR fr M1 M2) Q (b1, b2) 3 [zR 82, zR l1, zR l2, zR 51, zI l4, x5, x6, x7, x8] [] 137 h := by
  refine s_fgt (fgt_c (fgt_c (fgt_c (fgt_c (fgt_c (fgt_n _ (fgt_n _ (fgt_n _ (fgt_n _ fgt_0))))))))) ?_
  refine s_iload (x := l4) dX3_searchAll_3 rfl ?_
  refine s_bipush dX3_searchAll_5 (by decide) ?_
  exact s_icmp_gt (tgt := 133) dX3_searchAll_7 (by decide) r1 ⟨by decide, by decide⟩ kt kf
theorem bX3_searchAll_10 {fr M1 M2 b1 b2 : Nat} {Q : RS → Nat → AH → Prop} {h : AH} {l1 l2 l4 : Int} {x5 x6 x7 x8 : AV}   (kk : Wp mX3_searchAll (kR fr M1 M2) Q (b1, b2) 13 [zR 82, zR l1, zR l2, zR 51, zI l4, zI 0, none, none, none] [] 137 h) : Wp mX3_searchAll (kR fr M1 M2) Q (b1, b2) 10 [zR 82, zR l1, zR l2, zR 51, zI l4, x5, x6, x7, x8] [] 137 h := by
  refine s_fgt (fgt_c (fgt_c (fgt_c (fgt_c (fgt_c (fgt_n _ (fgt_n _ (fgt_n _ (fgt_n _ fgt_0))))))))) ?_
  refine s_iconst dX3_searchAll_10 ?_
  refine s_istore dX3_searchAll_11 rfl (by decide) ?_
  exact kk
theorem bX3_searchAll_13 {fr M1 M2 b1 b2 : Nat} {Q : RS → Nat → AH → Prop} {h : AH} {l1 l2 l4 l5 : Int} {x6 x7 x8 : AV}  (r1 : 1 ≤ fr := by omega) (r2 : -2147483648 ≤ l4 ∧ l4 < 2147483648 := by omega) (r3 : -2147483648 ≤ l5 ∧ l5 < 2147483648 := by omega) (r4 : -2147483648 ≤ max 1 l4 ∧ max 1 l4 < 2147483648 := by omega) (kt : max 1 l4 ≤ l5 → Wp mX3_searchAll (kR fr M1 M2) Q (b1, b2) 127 [zR 82, zR l1, zR l2, zR 51, zI l4, zI l5, none, none, none] [] 137 h) (kf : l5 < max 1 l4 → Wp mX3_searchAll (kR fr M1 M2) Q (b1, b2) 24 [zR 82, zR l1, zR l2, zR 51, zI l4, zI l5, none, none, none] [] 137 h) : Wp mX3_searchAll (kR fr M1 M2) Q (b1, b2) 13 [zR 82, zR l1, zR l2, zR 51, zI l4, zI l5, x6, x7, x8] [] 137 h := by
  refine s_fgt (fgt_c (fgt_c (fgt_c (fgt_c (fgt_c (fgt_c (fgt_n _ (fgt_n _ (fgt_n _ fgt_0))))))))) ?_
  refine s_iload (x := l5) dX3_searchAll_13 rfl ?_
  refine s_iconst dX3_searchAll_15 ?_
  refine s_iload (x := l4) dX3_searchAll_16 rfl ?_
  refine s_mmax dX3_searchAll_18 wd1167 wd953 wd19 wd954 r1 (Nat.le_of_ble_eq_true rfl) ⟨by decide, by decide⟩ r2 ?_
  exact s_icmp_ge (tgt := 127) dX3_searchAll_21 (by decide) r3 r4 kt kf
theorem bX3_searchAll_24 {fr M1 M2 b1 b2 : Nat} {Q : RS → Nat → AH → Prop} {h : AH} {l1 l2 l4 l5 : Int} {x6 x7 x8 : AV}   (kk : Wp mX3_searchAll (kR fr M1 M2) Q (b1, b2) 31 [zR 82, zR l1, zR l2, zR 51, zI l4, zI l5, zI 60, zI 0, none] [] 137 h) : Wp mX3_searchAll (kR fr M1 M2) Q (b1, b2) 24 [zR 82, zR l1, zR l2, zR 51, zI l4, zI l5, x6, x7, x8] [] 137 h := by
  refine s_fgt (fgt_c (fgt_c (fgt_c (fgt_c (fgt_c (fgt_c (fgt_n _ (fgt_n _ (fgt_n _ fgt_0))))))))) ?_
  refine s_bipush dX3_searchAll_24 (by decide) ?_
  refine s_istore dX3_searchAll_26 rfl (by decide) ?_
  refine s_iconst dX3_searchAll_28 ?_
  refine s_istore dX3_searchAll_29 rfl (by decide) ?_
  exact kk
theorem bX3_searchAll_31 {fr M1 M2 b1 b2 : Nat} {Q : RS → Nat → AH → Prop} {h : AH} {l1 l2 l4 l5 l6 l7 : Int} {x8 : AV}  (r1 : 1 ≤ fr := by omega) (r2 : -2147483648 ≤ l5 ∧ l5 < 2147483648 := by omega) (r3 : -2147483648 ≤ l7 ∧ l7 < 2147483648 := by omega) (r4 : -2147483648 ≤ max 1 l5 ∧ max 1 l5 < 2147483648 := by omega) (kt : max 1 l5 ≤ l7 → Wp mX3_searchAll (kR fr M1 M2) Q (b1, b2) 121 [zR 82, zR l1, zR l2, zR 51, zI l4, zI l5, zI l6, zI l7, none] [] 137 h) (kf : l7 < max 1 l5 → Wp mX3_searchAll (kR fr M1 M2) Q (b1, b2) 42 [zR 82, zR l1, zR l2, zR 51, zI l4, zI l5, zI l6, zI l7, none] [] 137 h) : Wp mX3_searchAll (kR fr M1 M2) Q (b1, b2) 31 [zR 82, zR l1, zR l2, zR 51, zI l4, zI l5, zI l6, zI l7, x8] [] 137 h := by
  refine s_fgt (fgt_c (fgt_c (fgt_c (fgt_c (fgt_c (fgt_c (fgt_c (fgt_c (fgt_n _ fgt_0))))))))) ?_
  refine s_iload (x := l7) dX3_searchAll_31 rfl ?_
  refine s_iconst dX3_searchAll_33 ?_
  refine s_iload (x := l5) dX3_searchAll_34 rfl ?_
  refine s_mmax dX3_searchAll_36 wd1167 wd953 wd19 wd954 r1 (Nat.le_of_ble_eq_true rfl) ⟨by decide, by decide⟩ r2 ?_
  exact s_icmp_ge (tgt := 121) dX3_searchAll_39 (by decide) r3 r4 kt kf
theorem bX3_searchAll_42 {fr M1 M2 b1 b2 : Nat} {Q : RS → Nat → AH → Prop} {h : AH} {l1 l2 l4 l5 l6 l7 : Int} {x8 : AV}  (r1 : -2147483648 ≤ l7 ∧ l7 < 2147483648 := by omega) (r2 : -2147483648 ≤ l6 ∧ l6 < 2147483648 := by omega) (kt : l6 < l7 → Wp mX3_searchAll (kR fr M1 M2) Q (b1, b2) 121 [zR 82, zR l1, zR l2, zR 51, zI l4, zI l5, zI l6, zI l7, none] [] 137 h) (kf : l7 ≤ l6 → Wp mX3_searchAll (kR fr M1 M2) Q (b1, b2) 49 [zR 82, zR l1, zR l2, zR 51, zI l4, zI l5, zI l6, zI l7, none] [] 137 h) : Wp mX3_searchAll (kR fr M1 M2) Q (b1, b2) 42 [zR 82, zR l1, zR l2, zR 51, zI l4, zI l5, zI l6, zI l7, x8] [] 137 h := by
  refine s_fgt (fgt_c (fgt_c (fgt_c (fgt_c (fgt_c (fgt_c (fgt_c (fgt_c (fgt_n _ fgt_0))))))))) ?_
  refine s_iload (x := l7) dX3_searchAll_42 rfl ?_
  refine s_iload (x := l6) dX3_searchAll_44 rfl ?_
  exact s_icmp_gt (tgt := 121) dX3_searchAll_46 (by decide) r1 r2 kt kf
theorem bX3_searchAll_49 {fr M1 M2 b1 b2 : Nat} {Q : RS → Nat → AH → Prop} {h : AH} {l1 l2 l4 l5 l6 l7 : Int} {x8 : AV} {R : AH → Prop}   (hS : Sp mX7_layDelays true (fr - 1) 0 0 [zR 84, zI l7, zI l5, zI l4] 137 h (rV R)) (hf : 1 ≤ fr := by omega) (kk : ∀ h' : AH, R h' → Wp mX3_searchAll (kR fr M1 M2) Q (b1, b2) 62 [zR 82, zR l1, zR l2, zR 51, zI l4, zI l5, zI l6, zI l7, none] [] 137 h') : Wp mX3_searchAll (kR fr M1 M2) Q (b1, b2) 49 [zR 82, zR l1, zR l2, zR 51, zI l4, zI l5, zI l6, zI l7, x8] [] 137 h := by
  refine s_fgt (fgt_c (fgt_c (fgt_c (fgt_c (fgt_c (fgt_c (fgt_c (fgt_c (fgt_n _ fgt_0))))))))) ?_
  refine s_aload_n (x := 82) dX3_searchAll_49 rfl ?_
  refine s_getFd (c := 82) (d := 84) dX3_searchAll_50 lX3_18 e82 (Or.inl rfl) (by decide) (by decide) ?_
  refine s_iload (x := l7) dX3_searchAll_53 rfl ?_
  refine s_iload (x := l5) dX3_searchAll_55 rfl ?_
  refine s_iload (x := l4) dX3_searchAll_57 rfl ?_
  exact s_callV (as := [zI l7, zI l5, zI l4]) (st := []) (o := 84) dX3_searchAll_59 kX3_56 rfl ⟨7, 9, TX7, e84, rfl, by decide⟩ rfl rfl (Nat.le_of_ble_eq_true rfl) hS (show fr - 1 + 1 ≤ fr by omega) (Nat.zero_le _) (Nat.zero_le _) (fun v n' h' hP _ => by obtain ⟨e, rfl, hR⟩ := hP; cases e; exact kk h' hR) (fun E n' h' _ z => (rV_nt _ _ _ z).elim)
theorem bX3_searchAll_62 {fr M1 M2 b1 b2 : Nat} {Q : RS → Nat → AH → Prop} {h : AH} {l1 l2 l4 l5 l6 l7 : Int} {x8 : AV} {R : Int → AH → Prop}   (hS : Sp mX3_firstMiss true (fr - 1) 0 0 [zR 82, zR l1, zR l2, zR 51] 137 h (rI R)) (hf : 1 ≤ fr := by omega) (kk : ∀ (x : Int) (h' : AH), R x h' → Wp mX3_searchAll (kR fr M1 M2) Q (b1, b2) 69 [zR 82, zR l1, zR l2, zR 51, zI l4, zI l5, zI l6, zI l7, none] [zI x] 137 h') : Wp mX3_searchAll (kR fr M1 M2) Q (b1, b2) 62 [zR 82, zR l1, zR l2, zR 51, zI l4, zI l5, zI l6, zI l7, x8] [] 137 h := by
  refine s_fgt (fgt_c (fgt_c (fgt_c (fgt_c (fgt_c (fgt_c (fgt_c (fgt_c (fgt_n _ fgt_0))))))))) ?_
  refine s_aload_n (x := 82) dX3_searchAll_62 rfl ?_
  refine s_aload_n (x := l1) dX3_searchAll_63 rfl ?_
  refine s_aload_n (x := l2) dX3_searchAll_64 rfl ?_
  refine s_aload_n (x := 51) dX3_searchAll_65 rfl ?_
  exact s_callV (as := [zR l1, zR l2, zR 51]) (st := []) (o := 82) dX3_searchAll_66 kX3_60 rfl ⟨3, 8, TX3, e82, rfl, by decide⟩ rfl rfl (Nat.le_of_ble_eq_true rfl) hS (show fr - 1 + 1 ≤ fr by omega) (Nat.zero_le _) (Nat.zero_le _) (fun v n' h' hP _ => by obtain ⟨x, e, rfl, hR⟩ := hP; cases e; exact kk x h' hR) (fun E n' h' _ z => (rI_nt _ _ _ z).elim)
theorem bX3_searchAll_69 {fr M1 M2 b1 b2 : Nat} {Q : RS → Nat → AH → Prop} {h : AH} {l1 l2 l4 l5 l6 l7 s0 : Int} {x8 : AV}  (r1 : -2147483648 ≤ s0 ∧ s0 < 2147483648 := by omega) (kt : ¬ s0 = 60 → Wp mX3_searchAll (kR fr M1 M2) Q (b1, b2) 106 [zR 82, zR l1, zR l2, zR 51, zI l4, zI l5, zI l6, zI l7, zI s0] [] 137 h) (kf : s0 = 60 → Wp mX3_searchAll (kR fr M1 M2) Q (b1, b2) 78 [zR 82, zR l1, zR l2, zR 51, zI l4, zI l5, zI l6, zI l7, zI s0] [] 137 h) : Wp mX3_searchAll (kR fr M1 M2) Q (b1, b2) 69 [zR 82, zR l1, zR l2, zR 51, zI l4, zI l5, zI l6, zI l7, x8] [zI s0] 137 h := by
  refine s_fgt (fgt_c (fgt_c (fgt_c (fgt_c (fgt_c (fgt_c (fgt_c (fgt_c (fgt_n _ fgt_0))))))))) ?_
  refine s_istore dX3_searchAll_69 rfl (by decide) ?_
  refine s_iload (x := s0) dX3_searchAll_71 rfl ?_
  refine s_bipush dX3_searchAll_73 (by decide) ?_
  exact s_icmp_ne (tgt := 106) dX3_searchAll_75 (by decide) r1 ⟨by decide, by decide⟩ kt kf
theorem bX3_searchAll_78 {fr M1 M2 b1 b2 : Nat} {Q : RS → Nat → AH → Prop} {h : AH} {l1 l2 l4 l5 l6 l7 l8 : Int} {R : AH → Prop} (c1 : cel 137 l1 (2, 21) := by first | assumption | omega) (r1 : 0 ≤ l4 ∧ l4 < 32 := by omega) (r2 : (-2147483648 : Int) ≤ 1 * 2 ^ l4.toNat ∧ 1 * 2 ^ l4.toNat < (2147483648 : Int) := by omega) (r3 : 0 ≤ l5 ∧ l5 < 32 := by omega) (r4 : (-2147483648 : Int) ≤ 1 * 2 ^ l5.toNat ∧ 1 * 2 ^ l5.toNat < (2147483648 : Int) := by omega) (r5 : 0 ≤ l7 ∧ l7 < 32 := by omega) (r6 : (-2147483648 : Int) ≤ 1 * 2 ^ l7.toNat ∧ 1 * 2 ^ l7.toNat < (2147483648 : Int) := by omega) (hS : Sp mX3_take true (fr - 1) 0 0 [zR 82, zI (bOr (bOr ((1 * 2 ^ l4.toNat) / 2 ^ (1 : Int).toNat) ((1 * 2 ^ l5.toNat) / 2 ^ (1 : Int).toNat)) ((1 * 2 ^ l7.toNat) / 2 ^ (1 : Int).toNat)), zI (h l1 5)] 137 h (rV R)) (hf : 1 ≤ fr := by omega) (kk : ∀ h' : AH, R h' → Wp mX3_searchAll (kR fr M1 M2) Q (b1, b2) 106 [zR 82, zR l1, zR l2, zR 51, zI l4, zI l5, zI l6, zI l7, zI l8] [] 137 h') : Wp mX3_searchAll (kR fr M1 M2) Q (b1, b2) 78 [zR 82, zR l1, zR l2, zR 51, zI l4, zI l5, zI l6, zI l7, zI l8] [] 137 h := by
  refine s_aload_n (x := 82) dX3_searchAll_78 rfl ?_
  refine s_iconst dX3_searchAll_79 ?_
  refine s_iload (x := l4) dX3_searchAll_80 rfl ?_
  refine s_ishlN dX3_searchAll_82 r1.1 r1.2 ?_
  refine s_iconst dX3_searchAll_83 ?_
  refine s_ishrN dX3_searchAll_84 r2 (by decide) (by decide) ?_
  refine s_iconst dX3_searchAll_85 ?_
  refine s_iload (x := l5) dX3_searchAll_86 rfl ?_
  refine s_ishlN dX3_searchAll_88 r3.1 r3.2 ?_
  refine s_iconst dX3_searchAll_89 ?_
  refine s_ishrN dX3_searchAll_90 r4 (by decide) (by decide) ?_
  refine s_ior dX3_searchAll_91 ?_
  refine s_iconst dX3_searchAll_92 ?_
  refine s_iload (x := l7) dX3_searchAll_93 rfl ?_
  refine s_ishlN dX3_searchAll_95 r5.1 r5.2 ?_
  refine s_iconst dX3_searchAll_96 ?_
  refine s_ishrN dX3_searchAll_97 r6 (by decide) (by decide) ?_
  refine s_ior dX3_searchAll_98 ?_
  refine s_aload_n (x := l1) dX3_searchAll_99 rfl ?_
  refine s_get (c := l1) dX3_searchAll_100 lX3_64 c1 (by decide) ?_
  exact s_callV (as := [zI (bOr (bOr ((1 * 2 ^ l4.toNat) / 2 ^ (1 : Int).toNat) ((1 * 2 ^ l5.toNat) / 2 ^ (1 : Int).toNat)) ((1 * 2 ^ l7.toNat) / 2 ^ (1 : Int).toNat)), zI (h l1 5)]) (st := []) (o := 82) dX3_searchAll_103 kX3_67 rfl ⟨3, 8, TX3, e82, rfl, by decide⟩ rfl rfl (Nat.le_of_ble_eq_true rfl) hS (show fr - 1 + 1 ≤ fr by omega) (Nat.zero_le _) (Nat.zero_le _) (fun v n' h' hP _ => by obtain ⟨e, rfl, hR⟩ := hP; cases e; exact kk h' hR) (fun E n' h' _ z => (rV_nt _ _ _ z).elim)
theorem bX3_searchAll_106 {fr M1 M2 b1 b2 : Nat} {Q : RS → Nat → AH → Prop} {h : AH} {l1 l2 l4 l5 l6 l7 l8 : Int}  (r1 : -2147483648 ≤ l7 ∧ l7 < 2147483648 := by omega) (kt : ¬ l7 = 0 → Wp mX3_searchAll (kR fr M1 M2) Q (b1, b2) 115 [zR 82, zR l1, zR l2, zR 51, zI l4, zI l5, zI l6, zI l7, zI l8] [] 137 h) (kf : l7 = 0 → Wp mX3_searchAll (kR fr M1 M2) Q (b1, b2) 111 [zR 82, zR l1, zR l2, zR 51, zI l4, zI l5, zI l6, zI l7, zI l8] [] 137 h) : Wp mX3_searchAll (kR fr M1 M2) Q (b1, b2) 106 [zR 82, zR l1, zR l2, zR 51, zI l4, zI l5, zI l6, zI l7, zI l8] [] 137 h := by
  refine s_iload (x := l7) dX3_searchAll_106 rfl ?_
  exact s_if_ne (tgt := 115) dX3_searchAll_108 (by decide) r1 kt kf
theorem bX3_searchAll_111 {fr M1 M2 b1 b2 : Nat} {Q : RS → Nat → AH → Prop} {h : AH} {l1 l2 l4 l5 l7 l8 : Int} {x6 : AV}   (kk : Wp mX3_searchAll (kR fr M1 M2) Q (b1, b2) 115 [zR 82, zR l1, zR l2, zR 51, zI l4, zI l5, zI l8, zI l7, zI l8] [] 137 h) : Wp mX3_searchAll (kR fr M1 M2) Q (b1, b2) 111 [zR 82, zR l1, zR l2, zR 51, zI l4, zI l5, x6, zI l7, zI l8] [] 137 h := by
  refine s_fgt (fgt_c (fgt_c (fgt_c (fgt_c (fgt_c (fgt_c (fgt_n _ (fgt_c (fgt_c fgt_0))))))))) ?_
  refine s_iload (x := l8) dX3_searchAll_111 rfl ?_
  refine s_istore dX3_searchAll_113 rfl (by decide) ?_
  exact kk
theorem bX3_searchAll_115 {fr M1 M2 b1 b2 : Nat} {Q : RS → Nat → AH → Prop} {h : AH} {l1 l2 l4 l5 l6 l7 : Int} {x8 : AV}   (kk : Wp mX3_searchAll (kR fr M1 M2) Q (b1, b2) 31 [zR 82, zR l1, zR l2, zR 51, zI l4, zI l5, zI l6, zI (l7 + 1), none] [] 137 h) : Wp mX3_searchAll (kR fr M1 M2) Q (b1, b2) 115 [zR 82, zR l1, zR l2, zR 51, zI l4, zI l5, zI l6, zI l7, x8] [] 137 h := by
  refine s_fgt (fgt_c (fgt_c (fgt_c (fgt_c (fgt_c (fgt_c (fgt_c (fgt_c (fgt_n _ fgt_0))))))))) ?_
  refine s_iinc (x := l7) dX3_searchAll_115 rfl rfl (by decide) ?_
  exact s_goto (tgt := 31) dX3_searchAll_118 (by decide) kk
theorem bX3_searchAll_121 {fr M1 M2 b1 b2 : Nat} {Q : RS → Nat → AH → Prop} {h : AH} {l1 l2 l4 l5 : Int} {x6 x7 x8 : AV}   (kk : Wp mX3_searchAll (kR fr M1 M2) Q (b1, b2) 13 [zR 82, zR l1, zR l2, zR 51, zI l4, zI (l5 + 1), none, none, none] [] 137 h) : Wp mX3_searchAll (kR fr M1 M2) Q (b1, b2) 121 [zR 82, zR l1, zR l2, zR 51, zI l4, zI l5, x6, x7, x8] [] 137 h := by
  refine s_fgt (fgt_c (fgt_c (fgt_c (fgt_c (fgt_c (fgt_c (fgt_n _ (fgt_n _ (fgt_n _ fgt_0))))))))) ?_
  refine s_iinc (x := l5) dX3_searchAll_121 rfl rfl (by decide) ?_
  exact s_goto (tgt := 13) dX3_searchAll_124 (by decide) kk
theorem bX3_searchAll_127 {fr M1 M2 b1 b2 : Nat} {Q : RS → Nat → AH → Prop} {h : AH} {l1 l2 l4 : Int} {x5 x6 x7 x8 : AV}   (kk : Wp mX3_searchAll (kR fr M1 M2) Q (b1, b2) 3 [zR 82, zR l1, zR l2, zR 51, zI (l4 + 1), none, none, none, none] [] 137 h) : Wp mX3_searchAll (kR fr M1 M2) Q (b1, b2) 127 [zR 82, zR l1, zR l2, zR 51, zI l4, x5, x6, x7, x8] [] 137 h := by
  refine s_fgt (fgt_c (fgt_c (fgt_c (fgt_c (fgt_c (fgt_n _ (fgt_n _ (fgt_n _ (fgt_n _ fgt_0))))))))) ?_
  refine s_iinc (x := l4) dX3_searchAll_127 rfl rfl (by decide) ?_
  exact s_goto (tgt := 3) dX3_searchAll_130 (by decide) kk
theorem bX3_searchAll_133 {fr M1 M2 b1 b2 : Nat} {Q : RS → Nat → AH → Prop} {h : AH} {x0 x1 x2 x3 x4 x5 x6 x7 x8 : AV}   (hq : Q (.inl none) 137 h) : Wp mX3_searchAll (kR fr M1 M2) Q (b1, b2) 133 [x0, x1, x2, x3, x4, x5, x6, x7, x8] [] 137 h := by
  refine s_fgt (fgt_n _ (fgt_n _ (fgt_n _ (fgt_n _ (fgt_n _ (fgt_n _ (fgt_n _ (fgt_n _ (fgt_n _ fgt_0))))))))) ?_
  exact s_return dX3_searchAll_133 rfl hq (fun z => by cases z)
theorem dX3_firstMiss_0 : decode mX3_firstMiss.cd 0 = .ok (.aload_n 3, 1) := by decide +kernel
theorem dX3_firstMiss_1 : decode mX3_firstMiss.cd 1 = .ok (.aload_n 1, 1) := by decide +kernel
theorem dX3_firstMiss_2 : decode mX3_firstMiss.cd 2 = .ok (.aload_n 0, 1) := by decide +kernel
theorem dX3_firstMiss_3 : decode mX3_firstMiss.cd 3 = .ok (.getfield 18, 3) := by decide +kernel
theorem dX3_firstMiss_6 : decode mX3_firstMiss.cd 6 = .ok (.aload_n 2, 1) := by decide +kernel
theorem dX3_firstMiss_7 : decode mX3_firstMiss.cd 7 = .ok (.getfield 71, 3) := by decide +kernel
theorem dX3_firstMiss_10 : decode mX3_firstMiss.cd 10 = .ok (.sipush 199, 3) := by decide +kernel
theorem dX3_firstMiss_13 : decode mX3_firstMiss.cd 13 = .ok (.invokevirtual 76, 3) := by decide +kernel
theorem dX3_firstMiss_16 : decode mX3_firstMiss.cd 16 = .ok (.iconst 0, 1) := by decide +kernel
theorem dX3_firstMiss_17 : decode mX3_firstMiss.cd 17 = .ok (.istore 4, 2) := by decide +kernel
theorem dX3_firstMiss_19 : decode mX3_firstMiss.cd 19 = .ok (.iload 4, 2) := by decide +kernel
theorem dX3_firstMiss_21 : decode mX3_firstMiss.cd 21 = .ok (.bipush 60, 2) := by decide +kernel
theorem dX3_firstMiss_23 : decode mX3_firstMiss.cd 23 = .ok (.if_icmp .ge 34, 3) := by decide +kernel
theorem dX3_firstMiss_26 : decode mX3_firstMiss.cd 26 = .ok (.aload_n 3, 1) := by decide +kernel
theorem dX3_firstMiss_27 : decode mX3_firstMiss.cd 27 = .ok (.iload 4, 2) := by decide +kernel
theorem dX3_firstMiss_29 : decode mX3_firstMiss.cd 29 = .ok (.invokevirtual 82, 3) := by decide +kernel
theorem dX3_firstMiss_32 : decode mX3_firstMiss.cd 32 = .ok (.aload_n 3, 1) := by decide +kernel
theorem dX3_firstMiss_33 : decode mX3_firstMiss.cd 33 = .ok (.iload 4, 2) := by decide +kernel
theorem dX3_firstMiss_35 : decode mX3_firstMiss.cd 35 = .ok (.invokevirtual 86, 3) := by decide +kernel
theorem dX3_firstMiss_38 : decode mX3_firstMiss.cd 38 = .ok (.aload_n 2, 1) := by decide +kernel
theorem dX3_firstMiss_39 : decode mX3_firstMiss.cd 39 = .ok (.getfield 90, 3) := by decide +kernel
theorem dX3_firstMiss_42 : decode mX3_firstMiss.cd 42 = .ok (.iload 4, 2) := by decide +kernel
theorem dX3_firstMiss_44 : decode mX3_firstMiss.cd 44 = .ok (.iaload, 1) := by decide +kernel
theorem dX3_firstMiss_45 : decode mX3_firstMiss.cd 45 = .ok (.if_icmp .eq 6, 3) := by decide +kernel
theorem dX3_firstMiss_48 : decode mX3_firstMiss.cd 48 = .ok (.iload 4, 2) := by decide +kernel
theorem dX3_firstMiss_50 : decode mX3_firstMiss.cd 50 = .ok (.ireturn, 1) := by decide +kernel
theorem dX3_firstMiss_51 : decode mX3_firstMiss.cd 51 = .ok (.iinc 4 1, 3) := by decide +kernel
theorem dX3_firstMiss_54 : decode mX3_firstMiss.cd 54 = .ok (.goto (-35), 3) := by decide +kernel
theorem dX3_firstMiss_57 : decode mX3_firstMiss.cd 57 = .ok (.bipush 60, 2) := by decide +kernel
theorem dX3_firstMiss_59 : decode mX3_firstMiss.cd 59 = .ok (.ireturn, 1) := by decide +kernel
theorem bX3_firstMiss_0 {fr M1 M2 b1 b2 : Nat} {Q : RS → Nat → AH → Prop} {h : AH} {l1 l2 : Int} {x4 : AV} {R : AH → Prop} (c1 : cel 137 l2 (8, 8) := by first | assumption | omega)  (hS : Sp mX4_attend true (fr - 1) 0 0 [zR 51, zR l1, zR 84, zR (l2 + 1), zI 199] 137 h (rV R)) (hf : 1 ≤ fr := by omega) (kk : ∀ h' : AH, R h' → Wp mX3_firstMiss (kR fr M1 M2) Q (b1, b2) 16 [zR 82, zR l1, zR l2, zR 51, none] [] 137 h') : Wp mX3_firstMiss (kR fr M1 M2) Q (b1, b2) 0 [zR 82, zR l1, zR l2, zR 51, x4] [] 137 h := by
  refine s_fgt (fgt_c (fgt_c (fgt_c (fgt_c (fgt_n _ fgt_0))))) ?_
  refine s_aload_n (x := 51) dX3_firstMiss_0 rfl ?_
  refine s_aload_n (x := l1) dX3_firstMiss_1 rfl ?_
  refine s_aload_n (x := 82) dX3_firstMiss_2 rfl ?_
  refine s_getFd (c := 82) (d := 84) dX3_firstMiss_3 lX3_18 e82 (Or.inl rfl) (by decide) (by decide) ?_
  refine s_aload_n (x := l2) dX3_firstMiss_6 rfl ?_
  refine s_getFd (c := l2) (d := l2 + 1) dX3_firstMiss_7 lX3_71 c1 (Or.inl rfl) rfl (ne0 (fin_X8_0 c1)) ?_
  refine s_sipush dX3_firstMiss_10 (by decide) ?_
  exact s_callV (as := [zR l1, zR 84, zR (l2 + 1), zI 199]) (st := []) (o := 51) dX3_firstMiss_13 kX3_76 rfl ⟨4, 9, TX4, e51, rfl, by decide⟩ rfl rfl (Nat.le_of_ble_eq_true rfl) hS (show fr - 1 + 1 ≤ fr by omega) (Nat.zero_le _) (Nat.zero_le _) (fun v n' h' hP _ => by obtain ⟨e, rfl, hR⟩ := hP; cases e; exact kk h' hR) (fun E n' h' _ z => (rV_nt _ _ _ z).elim)
theorem bX3_firstMiss_16 {fr M1 M2 b1 b2 : Nat} {Q : RS → Nat → AH → Prop} {h : AH} {l2 : Int} {x0 x1 x4 : AV}   (kk : Wp mX3_firstMiss (kR fr M1 M2) Q (b1, b2) 19 [none, none, zR l2, zR 51, zI 0] [] 137 h) : Wp mX3_firstMiss (kR fr M1 M2) Q (b1, b2) 16 [x0, x1, zR l2, zR 51, x4] [] 137 h := by
  refine s_fgt (fgt_n _ (fgt_n _ (fgt_c (fgt_c (fgt_n _ fgt_0))))) ?_
  refine s_iconst dX3_firstMiss_16 ?_
  refine s_istore dX3_firstMiss_17 rfl (by decide) ?_
  exact kk
theorem bX3_firstMiss_19 {fr M1 M2 b1 b2 : Nat} {Q : RS → Nat → AH → Prop} {h : AH} {l2 l4 : Int} {x0 x1 : AV}  (r1 : -2147483648 ≤ l4 ∧ l4 < 2147483648 := by omega) (kt : 60 ≤ l4 → Wp mX3_firstMiss (kR fr M1 M2) Q (b1, b2) 57 [none, none, zR l2, zR 51, zI l4] [] 137 h) (kf : l4 < 60 → Wp mX3_firstMiss (kR fr M1 M2) Q (b1, b2) 26 [none, none, zR l2, zR 51, zI l4] [] 137 h) : Wp mX3_firstMiss (kR fr M1 M2) Q (b1, b2) 19 [x0, x1, zR l2, zR 51, zI l4] [] 137 h := by
  refine s_fgt (fgt_n _ (fgt_n _ (fgt_c (fgt_c (fgt_c fgt_0))))) ?_
  refine s_iload (x := l4) dX3_firstMiss_19 rfl ?_
  refine s_bipush dX3_firstMiss_21 (by decide) ?_
  exact s_icmp_ge (tgt := 57) dX3_firstMiss_23 (by decide) r1 ⟨by decide, by decide⟩ kt kf
theorem bX3_firstMiss_26 {fr M1 M2 b1 b2 : Nat} {Q : RS → Nat → AH → Prop} {h : AH} {l2 l4 : Int} {x0 x1 : AV} {R : AH → Prop}   (hS : Sp mX4_measure true (fr - 1) 0 0 [zR 51, zI l4] 137 h (rV R)) (hf : 1 ≤ fr := by omega) (kk : ∀ h' : AH, R h' → Wp mX3_firstMiss (kR fr M1 M2) Q (b1, b2) 32 [none, none, zR l2, zR 51, zI l4] [] 137 h') : Wp mX3_firstMiss (kR fr M1 M2) Q (b1, b2) 26 [x0, x1, zR l2, zR 51, zI l4] [] 137 h := by
  refine s_fgt (fgt_n _ (fgt_n _ (fgt_c (fgt_c (fgt_c fgt_0))))) ?_
  refine s_aload_n (x := 51) dX3_firstMiss_26 rfl ?_
  refine s_iload (x := l4) dX3_firstMiss_27 rfl ?_
  exact s_callV (as := [zI l4]) (st := []) (o := 51) dX3_firstMiss_29 kX3_82 rfl ⟨4, 9, TX4, e51, rfl, by decide⟩ rfl rfl (Nat.le_of_ble_eq_true rfl) hS (show fr - 1 + 1 ≤ fr by omega) (Nat.zero_le _) (Nat.zero_le _) (fun v n' h' hP _ => by obtain ⟨e, rfl, hR⟩ := hP; cases e; exact kk h' hR) (fun E n' h' _ z => (rV_nt _ _ _ z).elim)
theorem bX3_firstMiss_32 {fr M1 M2 b1 b2 : Nat} {Q : RS → Nat → AH → Prop} {h : AH} {l2 l4 : Int} {x0 x1 : AV} {R : Int → AH → Prop}   (hS : Sp mX4_hears true (fr - 1) 0 0 [zR 51, zI l4] 137 h (rI R)) (hf : 1 ≤ fr := by omega) (kk : ∀ (x : Int) (h' : AH), R x h' → Wp mX3_firstMiss (kR fr M1 M2) Q (b1, b2) 38 [none, none, zR l2, zR 51, zI l4] [zI x] 137 h') : Wp mX3_firstMiss (kR fr M1 M2) Q (b1, b2) 32 [x0, x1, zR l2, zR 51, zI l4] [] 137 h := by
  refine s_fgt (fgt_n _ (fgt_n _ (fgt_c (fgt_c (fgt_c fgt_0))))) ?_
  refine s_aload_n (x := 51) dX3_firstMiss_32 rfl ?_
  refine s_iload (x := l4) dX3_firstMiss_33 rfl ?_
  exact s_callV (as := [zI l4]) (st := []) (o := 51) dX3_firstMiss_35 kX3_86 rfl ⟨4, 9, TX4, e51, rfl, by decide⟩ rfl rfl (Nat.le_of_ble_eq_true rfl) hS (show fr - 1 + 1 ≤ fr by omega) (Nat.zero_le _) (Nat.zero_le _) (fun v n' h' hP _ => by obtain ⟨x, e, rfl, hR⟩ := hP; cases e; exact kk x h' hR) (fun E n' h' _ z => (rI_nt _ _ _ z).elim)
theorem bX3_firstMiss_38 {fr M1 M2 b1 b2 : Nat} {Q : RS → Nat → AH → Prop} {h : AH} {l2 l4 s0 : Int} {x0 x1 : AV} (c1 : cel 137 l2 (8, 8) := by first | assumption | omega) (r1 : 0 ≤ l4 ∧ l4 < 60 := by omega) (r2 : -2147483648 ≤ s0 ∧ s0 < 2147483648 := by omega) (r3 : -2147483648 ≤ h (l2 + 2) l4 ∧ h (l2 + 2) l4 < 2147483648 := by omega) (kt : s0 = h (l2 + 2) l4 → Wp mX3_firstMiss (kR fr M1 M2) Q (b1, b2) 51 [none, none, zR l2, zR 51, zI l4] [] 137 h) (kf : ¬ s0 = h (l2 + 2) l4 → Wp mX3_firstMiss (kR fr M1 M2) Q (b1, b2) 48 [none, none, zR l2, zR 51, zI l4] [] 137 h) : Wp mX3_firstMiss (kR fr M1 M2) Q (b1, b2) 38 [x0, x1, zR l2, zR 51, zI l4] [zI s0] 137 h := by
  refine s_fgt (fgt_n _ (fgt_n _ (fgt_c (fgt_c (fgt_c fgt_0))))) ?_
  refine s_aload_n (x := l2) dX3_firstMiss_38 rfl ?_
  refine s_getFd (c := l2) (d := l2 + 2) dX3_firstMiss_39 lX3_90 c1 (Or.inl rfl) rfl (ne0 (fin_X8_2 c1)) ?_
  refine s_iload (x := l4) dX3_firstMiss_42 rfl ?_
  refine s_iald (c := l2 + 2) (i := l4) dX3_firstMiss_44 (fin_X8_2 c1) r1.1 r1.2 ?_
  exact s_icmp_eq (tgt := 51) dX3_firstMiss_45 (by decide) r2 r3 kt kf
theorem bX3_firstMiss_48 {fr M1 M2 b1 b2 : Nat} {Q : RS → Nat → AH → Prop} {h : AH} {l4 : Int} {x0 x1 x2 x3 : AV}   (hq : Q (.inl (some (zI l4))) 137 h) : Wp mX3_firstMiss (kR fr M1 M2) Q (b1, b2) 48 [x0, x1, x2, x3, zI l4] [] 137 h := by
  refine s_fgt (fgt_n _ (fgt_n _ (fgt_n _ (fgt_n _ (fgt_c fgt_0))))) ?_
  refine s_iload (x := l4) dX3_firstMiss_48 rfl ?_
  exact s_ireturn dX3_firstMiss_50 ⟨.int, rfl, rfl⟩ hq (fun z => by cases z)
theorem bX3_firstMiss_51 {fr M1 M2 b1 b2 : Nat} {Q : RS → Nat → AH → Prop} {h : AH} {l2 l4 : Int} {x0 x1 : AV}   (kk : Wp mX3_firstMiss (kR fr M1 M2) Q (b1, b2) 19 [none, none, zR l2, zR 51, zI (l4 + 1)] [] 137 h) : Wp mX3_firstMiss (kR fr M1 M2) Q (b1, b2) 51 [x0, x1, zR l2, zR 51, zI l4] [] 137 h := by
  refine s_fgt (fgt_n _ (fgt_n _ (fgt_c (fgt_c (fgt_c fgt_0))))) ?_
  refine s_iinc (x := l4) dX3_firstMiss_51 rfl rfl (by decide) ?_
  exact s_goto (tgt := 19) dX3_firstMiss_54 (by decide) kk
theorem bX3_firstMiss_57 {fr M1 M2 b1 b2 : Nat} {Q : RS → Nat → AH → Prop} {h : AH} {x0 x1 x2 x3 x4 : AV}   (hq : Q (.inl (some (zI 60))) 137 h) : Wp mX3_firstMiss (kR fr M1 M2) Q (b1, b2) 57 [x0, x1, x2, x3, x4] [] 137 h := by
  refine s_fgt (fgt_n _ (fgt_n _ (fgt_n _ (fgt_n _ (fgt_n _ fgt_0))))) ?_
  refine s_bipush dX3_firstMiss_57 (by decide) ?_
  exact s_ireturn dX3_firstMiss_59 ⟨.int, rfl, rfl⟩ hq (fun z => by cases z)
theorem dX3_take_0 : decode mX3_take.cd 0 = .ok (.iload_n 1, 1) := by decide +kernel
theorem dX3_take_1 : decode mX3_take.cd 1 = .ok (.invokestatic 93, 3) := by decide +kernel
theorem dX3_take_4 : decode mX3_take.cd 4 = .ok (.istore_n 3, 1) := by decide +kernel
theorem dX3_take_5 : decode mX3_take.cd 5 = .ok (.aload_n 0, 1) := by decide +kernel
theorem dX3_take_6 : decode mX3_take.cd 6 = .ok (.getfield 9, 3) := by decide +kernel
theorem dX3_take_9 : decode mX3_take.cd 9 = .ok (.iconst 0, 1) := by decide +kernel
theorem dX3_take_10 : decode mX3_take.cd 10 = .ok (.iaload, 1) := by decide +kernel
theorem dX3_take_11 : decode mX3_take.cd 11 = .ok (.ifCond .eq 11, 3) := by decide +kernel
theorem dX3_take_14 : decode mX3_take.cd 14 = .ok (.iload_n 3, 1) := by decide +kernel
theorem dX3_take_15 : decode mX3_take.cd 15 = .ok (.aload_n 0, 1) := by decide +kernel
theorem dX3_take_16 : decode mX3_take.cd 16 = .ok (.getfield 98, 3) := by decide +kernel
theorem dX3_take_19 : decode mX3_take.cd 19 = .ok (.if_icmp .ge 15, 3) := by decide +kernel
theorem dX3_take_22 : decode mX3_take.cd 22 = .ok (.aload_n 0, 1) := by decide +kernel
theorem dX3_take_23 : decode mX3_take.cd 23 = .ok (.getfield 9, 3) := by decide +kernel
theorem dX3_take_26 : decode mX3_take.cd 26 = .ok (.iconst 3, 1) := by decide +kernel
theorem dX3_take_27 : decode mX3_take.cd 27 = .ok (.iload_n 1, 1) := by decide +kernel
theorem dX3_take_28 : decode mX3_take.cd 28 = .ok (.iastore, 1) := by decide +kernel
theorem dX3_take_29 : decode mX3_take.cd 29 = .ok (.aload_n 0, 1) := by decide +kernel
theorem dX3_take_30 : decode mX3_take.cd 30 = .ok (.iload_n 3, 1) := by decide +kernel
theorem dX3_take_31 : decode mX3_take.cd 31 = .ok (.putfield 98, 3) := by decide +kernel
theorem dX3_take_34 : decode mX3_take.cd 34 = .ok (.iload_n 1, 1) := by decide +kernel
theorem dX3_take_35 : decode mX3_take.cd 35 = .ok (.iload_n 2, 1) := by decide +kernel
theorem dX3_take_36 : decode mX3_take.cd 36 = .ok (.ishr, 1) := by decide +kernel
theorem dX3_take_37 : decode mX3_take.cd 37 = .ok (.istore 4, 2) := by decide +kernel
theorem dX3_take_39 : decode mX3_take.cd 39 = .ok (.aload_n 0, 1) := by decide +kernel
theorem dX3_take_40 : decode mX3_take.cd 40 = .ok (.aload_n 0, 1) := by decide +kernel
theorem dX3_take_41 : decode mX3_take.cd 41 = .ok (.getfield 9, 3) := by decide +kernel
theorem dX3_take_44 : decode mX3_take.cd 44 = .ok (.iconst 0, 1) := by decide +kernel
theorem dX3_take_45 : decode mX3_take.cd 45 = .ok (.iaload, 1) := by decide +kernel
theorem dX3_take_46 : decode mX3_take.cd 46 = .ok (.ifCond .le 21, 3) := by decide +kernel
theorem dX3_take_49 : decode mX3_take.cd 49 = .ok (.iload 4, 2) := by decide +kernel
theorem dX3_take_51 : decode mX3_take.cd 51 = .ok (.aload_n 0, 1) := by decide +kernel
theorem dX3_take_52 : decode mX3_take.cd 52 = .ok (.getfield 101, 3) := by decide +kernel
theorem dX3_take_55 : decode mX3_take.cd 55 = .ok (.if_icmp .ne 12, 3) := by decide +kernel
theorem dX3_take_58 : decode mX3_take.cd 58 = .ok (.aload_n 0, 1) := by decide +kernel
theorem dX3_take_59 : decode mX3_take.cd 59 = .ok (.getfield 104, 3) := by decide +kernel
theorem dX3_take_62 : decode mX3_take.cd 62 = .ok (.iconst 1, 1) := by decide +kernel
theorem dX3_take_63 : decode mX3_take.cd 63 = .ok (.iadd, 1) := by decide +kernel
theorem dX3_take_64 : decode mX3_take.cd 64 = .ok (.goto 4, 3) := by decide +kernel
theorem dX3_take_67 : decode mX3_take.cd 67 = .ok (.iconst 1, 1) := by decide +kernel
theorem dX3_take_68 : decode mX3_take.cd 68 = .ok (.putfield 104, 3) := by decide +kernel
theorem dX3_take_71 : decode mX3_take.cd 71 = .ok (.aload_n 0, 1) := by decide +kernel
theorem dX3_take_72 : decode mX3_take.cd 72 = .ok (.iload 4, 2) := by decide +kernel
theorem dX3_take_74 : decode mX3_take.cd 74 = .ok (.putfield 101, 3) := by decide +kernel
theorem dX3_take_77 : decode mX3_take.cd 77 = .ok (.aload_n 0, 1) := by decide +kernel
theorem dX3_take_78 : decode mX3_take.cd 78 = .ok (.aload_n 0, 1) := by decide +kernel
theorem dX3_take_79 : decode mX3_take.cd 79 = .ok (.getfield 30, 3) := by decide +kernel
theorem dX3_take_82 : decode mX3_take.cd 82 = .ok (.aload_n 0, 1) := by decide +kernel
theorem dX3_take_83 : decode mX3_take.cd 83 = .ok (.getfield 104, 3) := by decide +kernel
theorem dX3_take_86 : decode mX3_take.cd 86 = .ok (.invokestatic 50, 3) := by decide +kernel
theorem dX3_take_89 : decode mX3_take.cd 89 = .ok (.putfield 30, 3) := by decide +kernel
theorem dX3_take_92 : decode mX3_take.cd 92 = .ok (.aload_n 0, 1) := by decide +kernel
theorem dX3_take_93 : decode mX3_take.cd 93 = .ok (.getfield 9, 3) := by decide +kernel
theorem dX3_take_96 : decode mX3_take.cd 96 = .ok (.iconst 0, 1) := by decide +kernel
theorem dX3_take_97 : decode mX3_take.cd 97 = .ok (.dup2, 1) := by decide +kernel
theorem dX3_take_98 : decode mX3_take.cd 98 = .ok (.iaload, 1) := by decide +kernel
theorem dX3_take_99 : decode mX3_take.cd 99 = .ok (.iconst 1, 1) := by decide +kernel
theorem dX3_take_100 : decode mX3_take.cd 100 = .ok (.iadd, 1) := by decide +kernel
theorem dX3_take_101 : decode mX3_take.cd 101 = .ok (.iastore, 1) := by decide +kernel
theorem dX3_take_102 : decode mX3_take.cd 102 = .ok (.aload_n 0, 1) := by decide +kernel
theorem dX3_take_103 : decode mX3_take.cd 103 = .ok (.getfield 9, 3) := by decide +kernel
theorem dX3_take_106 : decode mX3_take.cd 106 = .ok (.iconst 1, 1) := by decide +kernel
theorem dX3_take_107 : decode mX3_take.cd 107 = .ok (.dup2, 1) := by decide +kernel
theorem dX3_take_108 : decode mX3_take.cd 108 = .ok (.iaload, 1) := by decide +kernel
theorem dX3_take_109 : decode mX3_take.cd 109 = .ok (.iload_n 1, 1) := by decide +kernel
theorem dX3_take_110 : decode mX3_take.cd 110 = .ok (.iand, 1) := by decide +kernel
theorem dX3_take_111 : decode mX3_take.cd 111 = .ok (.iastore, 1) := by decide +kernel
theorem dX3_take_112 : decode mX3_take.cd 112 = .ok (.aload_n 0, 1) := by decide +kernel
theorem dX3_take_113 : decode mX3_take.cd 113 = .ok (.getfield 9, 3) := by decide +kernel
theorem dX3_take_116 : decode mX3_take.cd 116 = .ok (.iconst 2, 1) := by decide +kernel
theorem dX3_take_117 : decode mX3_take.cd 117 = .ok (.dup2, 1) := by decide +kernel
theorem dX3_take_118 : decode mX3_take.cd 118 = .ok (.iaload, 1) := by decide +kernel
theorem dX3_take_119 : decode mX3_take.cd 119 = .ok (.iload_n 1, 1) := by decide +kernel
theorem dX3_take_120 : decode mX3_take.cd 120 = .ok (.ior, 1) := by decide +kernel
theorem dX3_take_121 : decode mX3_take.cd 121 = .ok (.iastore, 1) := by decide +kernel
theorem dX3_take_122 : decode mX3_take.cd 122 = .ok (.return_, 1) := by decide +kernel
theorem bX3_take_0 {fr M1 M2 b1 b2 : Nat} {Q : RS → Nat → AH → Prop} {h : AH} {l1 l2 : Int} {x3 x4 : AV} {R : Int → AH → Prop}   (hS : Sp mJ6_bitCount_0f7a4 true (fr - 1) 0 0 [zI l1] 137 h (rI R)) (hf : 1 ≤ fr := by omega) (kk : ∀ (x : Int) (h' : AH), R x h' → Wp mX3_take (kR fr M1 M2) Q (b1, b2) 4 [zR 82, zI l1, zI l2, none, none] [zI x] 137 h') : Wp mX3_take (kR fr M1 M2) Q (b1, b2) 0 [zR 82, zI l1, zI l2, x3, x4] [] 137 h := by
  refine s_fgt (fgt_c (fgt_c (fgt_c (fgt_n _ (fgt_n _ fgt_0))))) ?_
  refine s_iload_n (x := l1) dX3_take_0 rfl ?_
  exact s_callS (as := [zI l1]) (st := []) dX3_take_1 kX3_93 rfl rfl (Nat.le_of_ble_eq_true rfl) hS (show fr - 1 + 1 ≤ fr by omega) (Nat.zero_le _) (Nat.zero_le _) (fun v n' h' hP _ => by obtain ⟨x, e, rfl, hR⟩ := hP; cases e; exact kk x h' hR) (fun E n' h' _ z => (rI_nt _ _ _ z).elim)
theorem bX3_take_4 {fr M1 M2 b1 b2 : Nat} {Q : RS → Nat → AH → Prop} {h : AH} {l1 l2 s0 : Int} {x3 x4 : AV}  (r1 : -2147483648 ≤ h 83 0 ∧ h 83 0 < 2147483648 := by omega) (kt : h 83 0 = 0 → Wp mX3_take (kR fr M1 M2) Q (b1, b2) 22 [zR 82, zI l1, zI l2, zI s0, none] [] 137 h) (kf : ¬ h 83 0 = 0 → Wp mX3_take (kR fr M1 M2) Q (b1, b2) 14 [zR 82, zI l1, zI l2, zI s0, none] [] 137 h) : Wp mX3_take (kR fr M1 M2) Q (b1, b2) 4 [zR 82, zI l1, zI l2, x3, x4] [zI s0] 137 h := by
  refine s_fgt (fgt_c (fgt_c (fgt_c (fgt_n _ (fgt_n _ fgt_0))))) ?_
  refine s_istore_n dX3_take_4 rfl (by decide) ?_
  refine s_aload_n (x := 82) dX3_take_5 rfl ?_
  refine s_getFd (c := 82) (d := 83) dX3_take_6 lX3_9 e82 (Or.inl rfl) (by decide) (by decide) ?_
  refine s_iconst dX3_take_9 ?_
  refine s_iald (c := 83) (i := 0) dX3_take_10 e83 (by decide) (by decide) ?_
  exact s_if_eq (tgt := 22) dX3_take_11 (by decide) r1 kt kf
theorem bX3_take_14 {fr M1 M2 b1 b2 : Nat} {Q : RS → Nat → AH → Prop} {h : AH} {l1 l2 l3 : Int} {x4 : AV}  (r1 : -2147483648 ≤ l3 ∧ l3 < 2147483648 := by omega) (r2 : -2147483648 ≤ h 82 4 ∧ h 82 4 < 2147483648 := by omega) (kt : h 82 4 ≤ l3 → Wp mX3_take (kR fr M1 M2) Q (b1, b2) 34 [zR 82, zI l1, zI l2, zI l3, none] [] 137 h) (kf : l3 < h 82 4 → Wp mX3_take (kR fr M1 M2) Q (b1, b2) 22 [zR 82, zI l1, zI l2, zI l3, none] [] 137 h) : Wp mX3_take (kR fr M1 M2) Q (b1, b2) 14 [zR 82, zI l1, zI l2, zI l3, x4] [] 137 h := by
  refine s_fgt (fgt_c (fgt_c (fgt_c (fgt_c (fgt_n _ fgt_0))))) ?_
  refine s_iload_n (x := l3) dX3_take_14 rfl ?_
  refine s_aload_n (x := 82) dX3_take_15 rfl ?_
  refine s_get (c := 82) dX3_take_16 lX3_98 e82 (by decide) ?_
  exact s_icmp_ge (tgt := 34) dX3_take_19 (by decide) r1 r2 kt kf
theorem bX3_take_22 {fr M1 M2 b1 b2 : Nat} {Q : RS → Nat → AH → Prop} {h : AH} {l1 l2 l3 : Int} {x4 : AV}   (kk : Wp mX3_take (kR fr M1 M2) Q (b1, b2) 34 [zR 82, zI l1, zI l2, zI l3, none] [] 137 (up (up h 83 3 l1) 82 4 l3)) : Wp mX3_take (kR fr M1 M2) Q (b1, b2) 22 [zR 82, zI l1, zI l2, zI l3, x4] [] 137 h := by
  refine s_fgt (fgt_c (fgt_c (fgt_c (fgt_c (fgt_n _ fgt_0))))) ?_
  refine s_aload_n (x := 82) dX3_take_22 rfl ?_
  refine s_getFd (c := 82) (d := 83) dX3_take_23 lX3_9 e82 (Or.inl rfl) (by decide) (by decide) ?_
  refine s_iconst dX3_take_26 ?_
  refine s_iload_n (x := l1) dX3_take_27 rfl ?_
  refine s_iast (c := 83) (i := 3) dX3_take_28 e83 (by decide) (by decide) ?_
  refine s_aload_n (x := 82) dX3_take_29 rfl ?_
  refine s_iload_n (x := l3) dX3_take_30 rfl ?_
  refine s_put (c := 82) dX3_take_31 lX3_98 e82 ?_
  exact kk
theorem bX3_take_34 {fr M1 M2 b1 b2 : Nat} {Q : RS → Nat → AH → Prop} {h : AH} {l1 l2 : Int} {x3 x4 : AV}  (r1 : 0 ≤ l2 ∧ l2 < 32 := by omega) (r2 : -2147483648 ≤ l1 ∧ l1 < 2147483648 := by omega) (r3 : -2147483648 ≤ h 83 0 ∧ h 83 0 < 2147483648 := by omega) (kt : h 83 0 ≤ 0 → Wp mX3_take (kR fr M1 M2) Q (b1, b2) 67 [zR 82, zI l1, zI l2, none, zI (l1 / 2 ^ l2.toNat)] [zR 82] 137 h) (kf : 0 < h 83 0 → Wp mX3_take (kR fr M1 M2) Q (b1, b2) 49 [zR 82, zI l1, zI l2, none, zI (l1 / 2 ^ l2.toNat)] [zR 82] 137 h) : Wp mX3_take (kR fr M1 M2) Q (b1, b2) 34 [zR 82, zI l1, zI l2, x3, x4] [] 137 h := by
  refine s_fgt (fgt_c (fgt_c (fgt_c (fgt_n _ (fgt_n _ fgt_0))))) ?_
  refine s_iload_n (x := l1) dX3_take_34 rfl ?_
  refine s_iload_n (x := l2) dX3_take_35 rfl ?_
  refine s_ishrN dX3_take_36 r2 r1.1 r1.2 ?_
  refine s_istore dX3_take_37 rfl (by decide) ?_
  refine s_aload_n (x := 82) dX3_take_39 rfl ?_
  refine s_aload_n (x := 82) dX3_take_40 rfl ?_
  refine s_getFd (c := 82) (d := 83) dX3_take_41 lX3_9 e82 (Or.inl rfl) (by decide) (by decide) ?_
  refine s_iconst dX3_take_44 ?_
  refine s_iald (c := 83) (i := 0) dX3_take_45 e83 (by decide) (by decide) ?_
  exact s_if_le (tgt := 67) dX3_take_46 (by decide) r3 kt kf
theorem bX3_take_49 {fr M1 M2 b1 b2 : Nat} {Q : RS → Nat → AH → Prop} {h : AH} {l1 l4 : Int} {x2 x3 : AV}  (r1 : -2147483648 ≤ l4 ∧ l4 < 2147483648 := by omega) (r2 : -2147483648 ≤ h 82 7 ∧ h 82 7 < 2147483648 := by omega) (kt : ¬ l4 = h 82 7 → Wp mX3_take (kR fr M1 M2) Q (b1, b2) 67 [zR 82, zI l1, none, none, zI l4] [zR 82] 137 h) (kf : l4 = h 82 7 → Wp mX3_take (kR fr M1 M2) Q (b1, b2) 58 [zR 82, zI l1, none, none, zI l4] [zR 82] 137 h) : Wp mX3_take (kR fr M1 M2) Q (b1, b2) 49 [zR 82, zI l1, x2, x3, zI l4] [zR 82] 137 h := by
  refine s_fgt (fgt_c (fgt_c (fgt_n _ (fgt_n _ (fgt_c fgt_0))))) ?_
  refine s_iload (x := l4) dX3_take_49 rfl ?_
  refine s_aload_n (x := 82) dX3_take_51 rfl ?_
  refine s_get (c := 82) dX3_take_52 lX3_101 e82 (by decide) ?_
  exact s_icmp_ne (tgt := 67) dX3_take_55 (by decide) r1 r2 kt kf
theorem bX3_take_58 {fr M1 M2 b1 b2 : Nat} {Q : RS → Nat → AH → Prop} {h : AH} {l1 l4 : Int} {x2 x3 : AV}   (kk : Wp mX3_take (kR fr M1 M2) Q (b1, b2) 68 [zR 82, zI l1, none, none, zI l4] [zI ((h 82 6) + 1), zR 82] 137 h) : Wp mX3_take (kR fr M1 M2) Q (b1, b2) 58 [zR 82, zI l1, x2, x3, zI l4] [zR 82] 137 h := by
  refine s_fgt (fgt_c (fgt_c (fgt_n _ (fgt_n _ (fgt_c fgt_0))))) ?_
  refine s_aload_n (x := 82) dX3_take_58 rfl ?_
  refine s_get (c := 82) dX3_take_59 lX3_104 e82 (by decide) ?_
  refine s_iconst dX3_take_62 ?_
  refine s_iadd dX3_take_63 ?_
  exact s_goto (tgt := 68) dX3_take_64 (by decide) kk
theorem bX3_take_67 {fr M1 M2 b1 b2 : Nat} {Q : RS → Nat → AH → Prop} {h : AH} {l1 l4 : Int} {x2 x3 : AV}   (kk : Wp mX3_take (kR fr M1 M2) Q (b1, b2) 68 [zR 82, zI l1, none, none, zI l4] [zI 1, zR 82] 137 h) : Wp mX3_take (kR fr M1 M2) Q (b1, b2) 67 [zR 82, zI l1, x2, x3, zI l4] [zR 82] 137 h := by
  refine s_fgt (fgt_c (fgt_c (fgt_n _ (fgt_n _ (fgt_c fgt_0))))) ?_
  refine s_iconst dX3_take_67 ?_
  exact kk
theorem bX3_take_68 {fr M1 M2 b1 b2 : Nat} {Q : RS → Nat → AH → Prop} {h : AH} {l1 l4 s0 : Int} {x2 x3 : AV}  (r1 : 1 ≤ fr := by omega) (r2 : -2147483648 ≤ h 82 5 ∧ h 82 5 < 2147483648 := by omega) (r3 : -2147483648 ≤ s0 ∧ s0 < 2147483648 := by omega) (hq : Q (.inl none) 137 (up (up (up (up (up (up h 82 6 s0) 82 7 l4) 82 5 (max (h 82 5) s0)) 83 0 ((h 83 0) + 1)) 83 1 (bAnd (h 83 1) l1)) 83 2 (bOr (h 83 2) l1))) : Wp mX3_take (kR fr M1 M2) Q (b1, b2) 68 [zR 82, zI l1, x2, x3, zI l4] [zI s0, zR 82] 137 h := by
  refine s_fgt (fgt_c (fgt_c (fgt_n _ (fgt_n _ (fgt_c fgt_0))))) ?_
  refine s_put (c := 82) dX3_take_68 lX3_104 e82 ?_
  refine s_aload_n (x := 82) dX3_take_71 rfl ?_
  refine s_iload (x := l4) dX3_take_72 rfl ?_
  refine s_put (c := 82) dX3_take_74 lX3_101 e82 ?_
  refine s_aload_n (x := 82) dX3_take_77 rfl ?_
  refine s_aload_n (x := 82) dX3_take_78 rfl ?_
  refine s_get (c := 82) dX3_take_79 lX3_30 e82 (by decide) ?_
  refine s_aload_n (x := 82) dX3_take_82 rfl ?_
  refine s_get (c := 82) dX3_take_83 lX3_104 e82 (by decide) ?_
  refine s_mmax dX3_take_86 wd1167 wd953 wd19 wd954 r1 (Nat.le_of_ble_eq_true rfl) r2 r3 ?_
  refine s_put (c := 82) dX3_take_89 lX3_30 e82 ?_
  refine s_aload_n (x := 82) dX3_take_92 rfl ?_
  refine s_getFd (c := 82) (d := 83) dX3_take_93 lX3_9 e82 (Or.inl rfl) (by decide) (by decide) ?_
  refine s_iconst dX3_take_96 ?_
  refine s_dup2 dX3_take_97 rfl rfl ?_
  refine s_iald (c := 83) (i := 0) dX3_take_98 e83 (by decide) (by decide) ?_
  refine s_iconst dX3_take_99 ?_
  refine s_iadd dX3_take_100 ?_
  refine s_iast (c := 83) (i := 0) dX3_take_101 e83 (by decide) (by decide) ?_
  refine s_aload_n (x := 82) dX3_take_102 rfl ?_
  refine s_getFd (c := 82) (d := 83) dX3_take_103 lX3_9 e82 (Or.inl rfl) (by decide) (by decide) ?_
  refine s_iconst dX3_take_106 ?_
  refine s_dup2 dX3_take_107 rfl rfl ?_
  refine s_iald (c := 83) (i := 1) dX3_take_108 e83 (by decide) (by decide) ?_
  refine s_iload_n (x := l1) dX3_take_109 rfl ?_
  refine s_iand dX3_take_110 ?_
  refine s_iast (c := 83) (i := 1) dX3_take_111 e83 (by decide) (by decide) ?_
  refine s_aload_n (x := 82) dX3_take_112 rfl ?_
  refine s_getFd (c := 82) (d := 83) dX3_take_113 lX3_9 e82 (Or.inl rfl) (by decide) (by decide) ?_
  refine s_iconst dX3_take_116 ?_
  refine s_dup2 dX3_take_117 rfl rfl ?_
  refine s_iald (c := 83) (i := 2) dX3_take_118 e83 (by decide) (by decide) ?_
  refine s_iload_n (x := l1) dX3_take_119 rfl ?_
  refine s_ior dX3_take_120 ?_
  refine s_iast (c := 83) (i := 2) dX3_take_121 e83 (by decide) (by decide) ?_
  exact s_return dX3_take_122 rfl hq (fun z => by cases z)
theorem dX3_findNext_0 : decode mX3_findNext.cd 0 = .ok (.aload_n 0, 1) := by decide +kernel
theorem dX3_findNext_1 : decode mX3_findNext.cd 1 = .ok (.getfield 9, 3) := by decide +kernel
theorem dX3_findNext_4 : decode mX3_findNext.cd 4 = .ok (.iconst 4, 1) := by decide +kernel
theorem dX3_findNext_5 : decode mX3_findNext.cd 5 = .ok (.iconst (-1), 1) := by decide +kernel
theorem dX3_findNext_6 : decode mX3_findNext.cd 6 = .ok (.iastore, 1) := by decide +kernel
theorem dX3_findNext_7 : decode mX3_findNext.cd 7 = .ok (.aload_n 0, 1) := by decide +kernel
theorem dX3_findNext_8 : decode mX3_findNext.cd 8 = .ok (.getfield 9, 3) := by decide +kernel
theorem dX3_findNext_11 : decode mX3_findNext.cd 11 = .ok (.iconst 5, 1) := by decide +kernel
theorem dX3_findNext_12 : decode mX3_findNext.cd 12 = .ok (.iconst 0, 1) := by decide +kernel
theorem dX3_findNext_13 : decode mX3_findNext.cd 13 = .ok (.iastore, 1) := by decide +kernel
theorem dX3_findNext_14 : decode mX3_findNext.cd 14 = .ok (.aload_n 0, 1) := by decide +kernel
theorem dX3_findNext_15 : decode mX3_findNext.cd 15 = .ok (.getfield 9, 3) := by decide +kernel
theorem dX3_findNext_18 : decode mX3_findNext.cd 18 = .ok (.iconst 0, 1) := by decide +kernel
theorem dX3_findNext_19 : decode mX3_findNext.cd 19 = .ok (.iaload, 1) := by decide +kernel
theorem dX3_findNext_20 : decode mX3_findNext.cd 20 = .ok (.ifCond .ne 4, 3) := by decide +kernel
theorem dX3_findNext_23 : decode mX3_findNext.cd 23 = .ok (.return_, 1) := by decide +kernel
theorem dX3_findNext_24 : decode mX3_findNext.cd 24 = .ok (.iconst 0, 1) := by decide +kernel
theorem dX3_findNext_25 : decode mX3_findNext.cd 25 = .ok (.istore_n 2, 1) := by decide +kernel
theorem dX3_findNext_26 : decode mX3_findNext.cd 26 = .ok (.iload_n 2, 1) := by decide +kernel
theorem dX3_findNext_27 : decode mX3_findNext.cd 27 = .ok (.aload_n 1, 1) := by decide +kernel
theorem dX3_findNext_28 : decode mX3_findNext.cd 28 = .ok (.getfield 107, 3) := by decide +kernel
theorem dX3_findNext_31 : decode mX3_findNext.cd 31 = .ok (.if_icmp .ge 50, 3) := by decide +kernel
theorem dX3_findNext_34 : decode mX3_findNext.cd 34 = .ok (.aload_n 0, 1) := by decide +kernel
theorem dX3_findNext_35 : decode mX3_findNext.cd 35 = .ok (.aload_n 1, 1) := by decide +kernel
theorem dX3_findNext_36 : decode mX3_findNext.cd 36 = .ok (.iload_n 2, 1) := by decide +kernel
theorem dX3_findNext_37 : decode mX3_findNext.cd 37 = .ok (.invokevirtual 110, 3) := by decide +kernel
theorem dX3_findNext_40 : decode mX3_findNext.cd 40 = .ok (.istore_n 3, 1) := by decide +kernel
theorem dX3_findNext_41 : decode mX3_findNext.cd 41 = .ok (.aload_n 0, 1) := by decide +kernel
theorem dX3_findNext_42 : decode mX3_findNext.cd 42 = .ok (.getfield 9, 3) := by decide +kernel
theorem dX3_findNext_45 : decode mX3_findNext.cd 45 = .ok (.iconst 4, 1) := by decide +kernel
theorem dX3_findNext_46 : decode mX3_findNext.cd 46 = .ok (.iaload, 1) := by decide +kernel
theorem dX3_findNext_47 : decode mX3_findNext.cd 47 = .ok (.iconst (-1), 1) := by decide +kernel
theorem dX3_findNext_48 : decode mX3_findNext.cd 48 = .ok (.if_icmp .eq 13, 3) := by decide +kernel
theorem dX3_findNext_51 : decode mX3_findNext.cd 51 = .ok (.iload_n 3, 1) := by decide +kernel
theorem dX3_findNext_52 : decode mX3_findNext.cd 52 = .ok (.aload_n 0, 1) := by decide +kernel
theorem dX3_findNext_53 : decode mX3_findNext.cd 53 = .ok (.getfield 9, 3) := by decide +kernel
theorem dX3_findNext_56 : decode mX3_findNext.cd 56 = .ok (.iconst 5, 1) := by decide +kernel
theorem dX3_findNext_57 : decode mX3_findNext.cd 57 = .ok (.iaload, 1) := by decide +kernel
theorem dX3_findNext_58 : decode mX3_findNext.cd 58 = .ok (.if_icmp .ge 17, 3) := by decide +kernel
theorem dX3_findNext_61 : decode mX3_findNext.cd 61 = .ok (.aload_n 0, 1) := by decide +kernel
theorem dX3_findNext_62 : decode mX3_findNext.cd 62 = .ok (.getfield 9, 3) := by decide +kernel
theorem dX3_findNext_65 : decode mX3_findNext.cd 65 = .ok (.iconst 4, 1) := by decide +kernel
theorem dX3_findNext_66 : decode mX3_findNext.cd 66 = .ok (.iload_n 2, 1) := by decide +kernel
theorem dX3_findNext_67 : decode mX3_findNext.cd 67 = .ok (.iastore, 1) := by decide +kernel
theorem dX3_findNext_68 : decode mX3_findNext.cd 68 = .ok (.aload_n 0, 1) := by decide +kernel
theorem dX3_findNext_69 : decode mX3_findNext.cd 69 = .ok (.getfield 9, 3) := by decide +kernel
theorem dX3_findNext_72 : decode mX3_findNext.cd 72 = .ok (.iconst 5, 1) := by decide +kernel
theorem dX3_findNext_73 : decode mX3_findNext.cd 73 = .ok (.iload_n 3, 1) := by decide +kernel
theorem dX3_findNext_74 : decode mX3_findNext.cd 74 = .ok (.iastore, 1) := by decide +kernel
theorem dX3_findNext_75 : decode mX3_findNext.cd 75 = .ok (.iinc 2 1, 3) := by decide +kernel
theorem dX3_findNext_78 : decode mX3_findNext.cd 78 = .ok (.goto (-52), 3) := by decide +kernel
theorem dX3_findNext_81 : decode mX3_findNext.cd 81 = .ok (.return_, 1) := by decide +kernel
theorem bX3_findNext_0 {fr M1 M2 b1 b2 : Nat} {Q : RS → Nat → AH → Prop} {h : AH} {l1 : Int} {x2 x3 : AV}  (r1 : -2147483648 ≤ h 83 0 ∧ h 83 0 < 2147483648 := by omega) (kt : ¬ h 83 0 = 0 → Wp mX3_findNext (kR fr M1 M2) Q (b1, b2) 24 [zR 82, zR l1, none, none] [] 137 (up (up h 83 4 (-1)) 83 5 0)) (kf : h 83 0 = 0 → Wp mX3_findNext (kR fr M1 M2) Q (b1, b2) 23 [zR 82, zR l1, none, none] [] 137 (up (up h 83 4 (-1)) 83 5 0)) : Wp mX3_findNext (kR fr M1 M2) Q (b1, b2) 0 [zR 82, zR l1, x2, x3] [] 137 h := by
  refine s_fgt (fgt_c (fgt_c (fgt_n _ (fgt_n _ fgt_0)))) ?_
  refine s_aload_n (x := 82) dX3_findNext_0 rfl ?_
  refine s_getFd (c := 82) (d := 83) dX3_findNext_1 lX3_9 e82 (Or.inl rfl) (by decide) (by decide) ?_
  refine s_iconst dX3_findNext_4 ?_
  refine s_iconst dX3_findNext_5 ?_
  refine s_iast (c := 83) (i := 4) dX3_findNext_6 e83 (by decide) (by decide) ?_
  refine s_aload_n (x := 82) dX3_findNext_7 rfl ?_
  refine s_getFd (c := 82) (d := 83) dX3_findNext_8 lX3_9 e82 (Or.inl rfl) (by decide) (by decide) ?_
  refine s_iconst dX3_findNext_11 ?_
  refine s_iconst dX3_findNext_12 ?_
  refine s_iast (c := 83) (i := 5) dX3_findNext_13 e83 (by decide) (by decide) ?_
  refine s_aload_n (x := 82) dX3_findNext_14 rfl ?_
  refine s_getFd (c := 82) (d := 83) dX3_findNext_15 lX3_9 e82 (Or.inl rfl) (by decide) (by decide) ?_
  refine s_iconst dX3_findNext_18 ?_
  refine s_iald (c := 83) (i := 0) dX3_findNext_19 e83 (by decide) (by decide) ?_
  exact s_if_ne (tgt := 24) dX3_findNext_20 (by decide) r1 kt kf
theorem bX3_findNext_23 {fr M1 M2 b1 b2 : Nat} {Q : RS → Nat → AH → Prop} {h : AH} {x0 x1 x2 x3 : AV}   (hq : Q (.inl none) 137 h) : Wp mX3_findNext (kR fr M1 M2) Q (b1, b2) 23 [x0, x1, x2, x3] [] 137 h := by
  refine s_fgt (fgt_n _ (fgt_n _ (fgt_n _ (fgt_n _ fgt_0)))) ?_
  exact s_return dX3_findNext_23 rfl hq (fun z => by cases z)
theorem bX3_findNext_24 {fr M1 M2 b1 b2 : Nat} {Q : RS → Nat → AH → Prop} {h : AH} {l1 : Int} {x2 x3 : AV}   (kk : Wp mX3_findNext (kR fr M1 M2) Q (b1, b2) 26 [zR 82, zR l1, zI 0, none] [] 137 h) : Wp mX3_findNext (kR fr M1 M2) Q (b1, b2) 24 [zR 82, zR l1, x2, x3] [] 137 h := by
  refine s_fgt (fgt_c (fgt_c (fgt_n _ (fgt_n _ fgt_0)))) ?_
  refine s_iconst dX3_findNext_24 ?_
  refine s_istore_n dX3_findNext_25 rfl (by decide) ?_
  exact kk
theorem bX3_findNext_26 {fr M1 M2 b1 b2 : Nat} {Q : RS → Nat → AH → Prop} {h : AH} {l1 l2 : Int} {x3 : AV} (c1 : cel 137 l1 (2, 21) := by first | assumption | omega) (r1 : -2147483648 ≤ l2 ∧ l2 < 2147483648 := by omega) (r2 : -2147483648 ≤ h l1 0 ∧ h l1 0 < 2147483648 := by omega) (kt : h l1 0 ≤ l2 → Wp mX3_findNext (kR fr M1 M2) Q (b1, b2) 81 [zR 82, zR l1, zI l2, none] [] 137 h) (kf : l2 < h l1 0 → Wp mX3_findNext (kR fr M1 M2) Q (b1, b2) 34 [zR 82, zR l1, zI l2, none] [] 137 h) : Wp mX3_findNext (kR fr M1 M2) Q (b1, b2) 26 [zR 82, zR l1, zI l2, x3] [] 137 h := by
  refine s_fgt (fgt_c (fgt_c (fgt_c (fgt_n _ fgt_0)))) ?_
  refine s_iload_n (x := l2) dX3_findNext_26 rfl ?_
  refine s_aload_n (x := l1) dX3_findNext_27 rfl ?_
  refine s_get (c := l1) dX3_findNext_28 lX3_107 c1 (by decide) ?_
  exact s_icmp_ge (tgt := 81) dX3_findNext_31 (by decide) r1 r2 kt kf
theorem bX3_findNext_34 {fr M1 M2 b1 b2 : Nat} {Q : RS → Nat → AH → Prop} {h : AH} {l1 l2 : Int} {x3 : AV} {R : Int → AH → Prop}   (hS : Sp mX3_greatestGroup true (fr - 1) 0 0 [zR 82, zR l1, zI l2] 137 h (rI R)) (hf : 1 ≤ fr := by omega) (kk : ∀ (x : Int) (h' : AH), R x h' → Wp mX3_findNext (kR fr M1 M2) Q (b1, b2) 40 [zR 82, zR l1, zI l2, none] [zI x] 137 h') : Wp mX3_findNext (kR fr M1 M2) Q (b1, b2) 34 [zR 82, zR l1, zI l2, x3] [] 137 h := by
  refine s_fgt (fgt_c (fgt_c (fgt_c (fgt_n _ fgt_0)))) ?_
  refine s_aload_n (x := 82) dX3_findNext_34 rfl ?_
  refine s_aload_n (x := l1) dX3_findNext_35 rfl ?_
  refine s_iload_n (x := l2) dX3_findNext_36 rfl ?_
  exact s_callV (as := [zR l1, zI l2]) (st := []) (o := 82) dX3_findNext_37 kX3_110 rfl ⟨3, 8, TX3, e82, rfl, by decide⟩ rfl rfl (Nat.le_of_ble_eq_true rfl) hS (show fr - 1 + 1 ≤ fr by omega) (Nat.zero_le _) (Nat.zero_le _) (fun v n' h' hP _ => by obtain ⟨x, e, rfl, hR⟩ := hP; cases e; exact kk x h' hR) (fun E n' h' _ z => (rI_nt _ _ _ z).elim)
theorem bX3_findNext_40 {fr M1 M2 b1 b2 : Nat} {Q : RS → Nat → AH → Prop} {h : AH} {l1 l2 s0 : Int} {x3 : AV}  (r1 : -2147483648 ≤ h 83 4 ∧ h 83 4 < 2147483648 := by omega) (kt : h 83 4 = (-1) → Wp mX3_findNext (kR fr M1 M2) Q (b1, b2) 61 [zR 82, zR l1, zI l2, zI s0] [] 137 h) (kf : ¬ h 83 4 = (-1) → Wp mX3_findNext (kR fr M1 M2) Q (b1, b2) 51 [zR 82, zR l1, zI l2, zI s0] [] 137 h) : Wp mX3_findNext (kR fr M1 M2) Q (b1, b2) 40 [zR 82, zR l1, zI l2, x3] [zI s0] 137 h := by
  refine s_fgt (fgt_c (fgt_c (fgt_c (fgt_n _ fgt_0)))) ?_
  refine s_istore_n dX3_findNext_40 rfl (by decide) ?_
  refine s_aload_n (x := 82) dX3_findNext_41 rfl ?_
  refine s_getFd (c := 82) (d := 83) dX3_findNext_42 lX3_9 e82 (Or.inl rfl) (by decide) (by decide) ?_
  refine s_iconst dX3_findNext_45 ?_
  refine s_iald (c := 83) (i := 4) dX3_findNext_46 e83 (by decide) (by decide) ?_
  refine s_iconst dX3_findNext_47 ?_
  exact s_icmp_eq (tgt := 61) dX3_findNext_48 (by decide) r1 ⟨by decide, by decide⟩ kt kf
theorem bX3_findNext_51 {fr M1 M2 b1 b2 : Nat} {Q : RS → Nat → AH → Prop} {h : AH} {l1 l2 l3 : Int}  (r1 : -2147483648 ≤ l3 ∧ l3 < 2147483648 := by omega) (r2 : -2147483648 ≤ h 83 5 ∧ h 83 5 < 2147483648 := by omega) (kt : h 83 5 ≤ l3 → Wp mX3_findNext (kR fr M1 M2) Q (b1, b2) 75 [zR 82, zR l1, zI l2, zI l3] [] 137 h) (kf : l3 < h 83 5 → Wp mX3_findNext (kR fr M1 M2) Q (b1, b2) 61 [zR 82, zR l1, zI l2, zI l3] [] 137 h) : Wp mX3_findNext (kR fr M1 M2) Q (b1, b2) 51 [zR 82, zR l1, zI l2, zI l3] [] 137 h := by
  refine s_iload_n (x := l3) dX3_findNext_51 rfl ?_
  refine s_aload_n (x := 82) dX3_findNext_52 rfl ?_
  refine s_getFd (c := 82) (d := 83) dX3_findNext_53 lX3_9 e82 (Or.inl rfl) (by decide) (by decide) ?_
  refine s_iconst dX3_findNext_56 ?_
  refine s_iald (c := 83) (i := 5) dX3_findNext_57 e83 (by decide) (by decide) ?_
  exact s_icmp_ge (tgt := 75) dX3_findNext_58 (by decide) r1 r2 kt kf
theorem bX3_findNext_61 {fr M1 M2 b1 b2 : Nat} {Q : RS → Nat → AH → Prop} {h : AH} {l1 l2 l3 : Int}   (kk : Wp mX3_findNext (kR fr M1 M2) Q (b1, b2) 75 [zR 82, zR l1, zI l2, zI l3] [] 137 (up (up h 83 4 l2) 83 5 l3)) : Wp mX3_findNext (kR fr M1 M2) Q (b1, b2) 61 [zR 82, zR l1, zI l2, zI l3] [] 137 h := by
  refine s_aload_n (x := 82) dX3_findNext_61 rfl ?_
  refine s_getFd (c := 82) (d := 83) dX3_findNext_62 lX3_9 e82 (Or.inl rfl) (by decide) (by decide) ?_
  refine s_iconst dX3_findNext_65 ?_
  refine s_iload_n (x := l2) dX3_findNext_66 rfl ?_
  refine s_iast (c := 83) (i := 4) dX3_findNext_67 e83 (by decide) (by decide) ?_
  refine s_aload_n (x := 82) dX3_findNext_68 rfl ?_
  refine s_getFd (c := 82) (d := 83) dX3_findNext_69 lX3_9 e82 (Or.inl rfl) (by decide) (by decide) ?_
  refine s_iconst dX3_findNext_72 ?_
  refine s_iload_n (x := l3) dX3_findNext_73 rfl ?_
  refine s_iast (c := 83) (i := 5) dX3_findNext_74 e83 (by decide) (by decide) ?_
  exact kk
theorem bX3_findNext_75 {fr M1 M2 b1 b2 : Nat} {Q : RS → Nat → AH → Prop} {h : AH} {l1 l2 : Int} {x3 : AV}   (kk : Wp mX3_findNext (kR fr M1 M2) Q (b1, b2) 26 [zR 82, zR l1, zI (l2 + 1), none] [] 137 h) : Wp mX3_findNext (kR fr M1 M2) Q (b1, b2) 75 [zR 82, zR l1, zI l2, x3] [] 137 h := by
  refine s_fgt (fgt_c (fgt_c (fgt_c (fgt_n _ fgt_0)))) ?_
  refine s_iinc (x := l2) dX3_findNext_75 rfl rfl (by decide) ?_
  exact s_goto (tgt := 26) dX3_findNext_78 (by decide) kk
theorem bX3_findNext_81 {fr M1 M2 b1 b2 : Nat} {Q : RS → Nat → AH → Prop} {h : AH} {x0 x1 x2 x3 : AV}   (hq : Q (.inl none) 137 h) : Wp mX3_findNext (kR fr M1 M2) Q (b1, b2) 81 [x0, x1, x2, x3] [] 137 h := by
  refine s_fgt (fgt_n _ (fgt_n _ (fgt_n _ (fgt_n _ fgt_0)))) ?_
  exact s_return dX3_findNext_81 rfl hq (fun z => by cases z)
theorem dX3_greatestGroup_0 : decode mX3_greatestGroup.cd 0 = .ok (.aload_n 0, 1) := by decide +kernel
theorem dX3_greatestGroup_1 : decode mX3_greatestGroup.cd 1 = .ok (.getfield 18, 3) := by decide +kernel
theorem dX3_greatestGroup_4 : decode mX3_greatestGroup.cd 4 = .ok (.getfield 114, 3) := by decide +kernel
theorem dX3_greatestGroup_7 : decode mX3_greatestGroup.cd 7 = .ok (.bipush 8, 2) := by decide +kernel
theorem dX3_greatestGroup_9 : decode mX3_greatestGroup.cd 9 = .ok (.iload_n 2, 1) := by decide +kernel
theorem dX3_greatestGroup_10 : decode mX3_greatestGroup.cd 10 = .ok (.iadd, 1) := by decide +kernel
theorem dX3_greatestGroup_11 : decode mX3_greatestGroup.cd 11 = .ok (.iaload, 1) := by decide +kernel
theorem dX3_greatestGroup_12 : decode mX3_greatestGroup.cd 12 = .ok (.istore_n 3, 1) := by decide +kernel
theorem dX3_greatestGroup_13 : decode mX3_greatestGroup.cd 13 = .ok (.iload_n 3, 1) := by decide +kernel
theorem dX3_greatestGroup_14 : decode mX3_greatestGroup.cd 14 = .ok (.aload_n 1, 1) := by decide +kernel
theorem dX3_greatestGroup_15 : decode mX3_greatestGroup.cd 15 = .ok (.getfield 117, 3) := by decide +kernel
theorem dX3_greatestGroup_18 : decode mX3_greatestGroup.cd 18 = .ok (.if_icmp .ge 10, 3) := by decide +kernel
theorem dX3_greatestGroup_21 : decode mX3_greatestGroup.cd 21 = .ok (.aload_n 0, 1) := by decide +kernel
theorem dX3_greatestGroup_22 : decode mX3_greatestGroup.cd 22 = .ok (.getfield 9, 3) := by decide +kernel
theorem dX3_greatestGroup_25 : decode mX3_greatestGroup.cd 25 = .ok (.iconst 0, 1) := by decide +kernel
theorem dX3_greatestGroup_26 : decode mX3_greatestGroup.cd 26 = .ok (.iaload, 1) := by decide +kernel
theorem dX3_greatestGroup_27 : decode mX3_greatestGroup.cd 27 = .ok (.ireturn, 1) := by decide +kernel
theorem dX3_greatestGroup_28 : decode mX3_greatestGroup.cd 28 = .ok (.aload_n 1, 1) := by decide +kernel
theorem dX3_greatestGroup_29 : decode mX3_greatestGroup.cd 29 = .ok (.getfield 120, 3) := by decide +kernel
theorem dX3_greatestGroup_32 : decode mX3_greatestGroup.cd 32 = .ok (.iload_n 2, 1) := by decide +kernel
theorem dX3_greatestGroup_33 : decode mX3_greatestGroup.cd 33 = .ok (.iaload, 1) := by decide +kernel
theorem dX3_greatestGroup_34 : decode mX3_greatestGroup.cd 34 = .ok (.iload_n 3, 1) := by decide +kernel
theorem dX3_greatestGroup_35 : decode mX3_greatestGroup.cd 35 = .ok (.aload_n 1, 1) := by decide +kernel
theorem dX3_greatestGroup_36 : decode mX3_greatestGroup.cd 36 = .ok (.getfield 121, 3) := by decide +kernel
theorem dX3_greatestGroup_39 : decode mX3_greatestGroup.cd 39 = .ok (.iadd, 1) := by decide +kernel
theorem dX3_greatestGroup_40 : decode mX3_greatestGroup.cd 40 = .ok (.if_icmp .le 10, 3) := by decide +kernel
theorem dX3_greatestGroup_43 : decode mX3_greatestGroup.cd 43 = .ok (.aload_n 0, 1) := by decide +kernel
theorem dX3_greatestGroup_44 : decode mX3_greatestGroup.cd 44 = .ok (.getfield 30, 3) := by decide +kernel
theorem dX3_greatestGroup_47 : decode mX3_greatestGroup.cd 47 = .ok (.goto 4, 3) := by decide +kernel
theorem dX3_greatestGroup_50 : decode mX3_greatestGroup.cd 50 = .ok (.iconst 1, 1) := by decide +kernel
theorem dX3_greatestGroup_51 : decode mX3_greatestGroup.cd 51 = .ok (.ireturn, 1) := by decide +kernel
theorem bX3_greatestGroup_0 {fr M1 M2 b1 b2 : Nat} {Q : RS → Nat → AH → Prop} {h : AH} {l1 l2 : Int} {x3 : AV} (c1 : cel 137 l1 (2, 21) := by first | assumption | omega) (r1 : 0 ≤ 8 + l2 ∧ 8 + l2 < 152 := by omega) (r2 : -2147483648 ≤ h 86 (8 + l2) ∧ h 86 (8 + l2) < 2147483648 := by omega) (r3 : -2147483648 ≤ h l1 4 ∧ h l1 4 < 2147483648 := by omega) (kt : h l1 4 ≤ h 86 (8 + l2) → Wp mX3_greatestGroup (kR fr M1 M2) Q (b1, b2) 28 [zR 82, zR l1, zI l2, zI (h 86 (8 + l2))] [] 137 h) (kf : h 86 (8 + l2) < h l1 4 → Wp mX3_greatestGroup (kR fr M1 M2) Q (b1, b2) 21 [zR 82, zR l1, zI l2, zI (h 86 (8 + l2))] [] 137 h) : Wp mX3_greatestGroup (kR fr M1 M2) Q (b1, b2) 0 [zR 82, zR l1, zI l2, x3] [] 137 h := by
  refine s_fgt (fgt_c (fgt_c (fgt_c (fgt_n _ fgt_0)))) ?_
  refine s_aload_n (x := 82) dX3_greatestGroup_0 rfl ?_
  refine s_getFd (c := 82) (d := 84) dX3_greatestGroup_1 lX3_18 e82 (Or.inl rfl) (by decide) (by decide) ?_
  refine s_getFd (c := 84) (d := 86) dX3_greatestGroup_4 lX3_114 e84 (Or.inl rfl) (by decide) (by decide) ?_
  refine s_bipush dX3_greatestGroup_7 (by decide) ?_
  refine s_iload_n (x := l2) dX3_greatestGroup_9 rfl ?_
  refine s_iadd dX3_greatestGroup_10 ?_
  refine s_iald (c := 86) (i := 8 + l2) dX3_greatestGroup_11 e86 r1.1 r1.2 ?_
  refine s_istore_n dX3_greatestGroup_12 rfl (by decide) ?_
  refine s_iload_n (x := h 86 (8 + l2)) dX3_greatestGroup_13 rfl ?_
  refine s_aload_n (x := l1) dX3_greatestGroup_14 rfl ?_
  refine s_get (c := l1) dX3_greatestGroup_15 lX3_117 c1 (by decide) ?_
  exact s_icmp_ge (tgt := 28) dX3_greatestGroup_18 (by decide) r2 r3 kt kf
theorem bX3_greatestGroup_21 {fr M1 M2 b1 b2 : Nat} {Q : RS → Nat → AH → Prop} {h : AH} {x1 x2 x3 : AV}   (hq : Q (.inl (some (zI (h 83 0)))) 137 h) : Wp mX3_greatestGroup (kR fr M1 M2) Q (b1, b2) 21 [zR 82, x1, x2, x3] [] 137 h := by
  refine s_fgt (fgt_c (fgt_n _ (fgt_n _ (fgt_n _ fgt_0)))) ?_
  refine s_aload_n (x := 82) dX3_greatestGroup_21 rfl ?_
  refine s_getFd (c := 82) (d := 83) dX3_greatestGroup_22 lX3_9 e82 (Or.inl rfl) (by decide) (by decide) ?_
  refine s_iconst dX3_greatestGroup_25 ?_
  refine s_iald (c := 83) (i := 0) dX3_greatestGroup_26 e83 (by decide) (by decide) ?_
  exact s_ireturn dX3_greatestGroup_27 ⟨.int, rfl, rfl⟩ hq (fun z => by cases z)
theorem bX3_greatestGroup_28 {fr M1 M2 b1 b2 : Nat} {Q : RS → Nat → AH → Prop} {h : AH} {l1 l2 l3 : Int} (c1 : cel 137 l1 (2, 21) := by first | assumption | omega) (r1 : 0 ≤ l2 ∧ l2 < 8 := by omega) (r2 : -2147483648 ≤ h (l1 + 1) l2 ∧ h (l1 + 1) l2 < 2147483648 := by omega) (r3 : -2147483648 ≤ l3 + (h l1 6) ∧ l3 + (h l1 6) < 2147483648 := by omega) (kt : h (l1 + 1) l2 ≤ l3 + (h l1 6) → Wp mX3_greatestGroup (kR fr M1 M2) Q (b1, b2) 50 [zR 82, zR l1, zI l2, zI l3] [] 137 h) (kf : l3 + (h l1 6) < h (l1 + 1) l2 → Wp mX3_greatestGroup (kR fr M1 M2) Q (b1, b2) 43 [zR 82, zR l1, zI l2, zI l3] [] 137 h) : Wp mX3_greatestGroup (kR fr M1 M2) Q (b1, b2) 28 [zR 82, zR l1, zI l2, zI l3] [] 137 h := by
  refine s_aload_n (x := l1) dX3_greatestGroup_28 rfl ?_
  refine s_getFd (c := l1) (d := l1 + 1) dX3_greatestGroup_29 lX3_120 c1 (Or.inl rfl) rfl (ne0 (fin_X2_7 c1)) ?_
  refine s_iload_n (x := l2) dX3_greatestGroup_32 rfl ?_
  refine s_iald (c := l1 + 1) (i := l2) dX3_greatestGroup_33 (fin_X2_7 c1) r1.1 r1.2 ?_
  refine s_iload_n (x := l3) dX3_greatestGroup_34 rfl ?_
  refine s_aload_n (x := l1) dX3_greatestGroup_35 rfl ?_
  refine s_get (c := l1) dX3_greatestGroup_36 lX3_121 c1 (by decide) ?_
  refine s_iadd dX3_greatestGroup_39 ?_
  exact s_icmp_le (tgt := 50) dX3_greatestGroup_40 (by decide) r2 r3 kt kf
theorem bX3_greatestGroup_43 {fr M1 M2 b1 b2 : Nat} {Q : RS → Nat → AH → Prop} {h : AH} {x1 x2 x3 : AV}   (kk : Wp mX3_greatestGroup (kR fr M1 M2) Q (b1, b2) 51 [zR 82, none, none, none] [zI (h 82 5)] 137 h) : Wp mX3_greatestGroup (kR fr M1 M2) Q (b1, b2) 43 [zR 82, x1, x2, x3] [] 137 h := by
  refine s_fgt (fgt_c (fgt_n _ (fgt_n _ (fgt_n _ fgt_0)))) ?_
  refine s_aload_n (x := 82) dX3_greatestGroup_43 rfl ?_
  refine s_get (c := 82) dX3_greatestGroup_44 lX3_30 e82 (by decide) ?_
  exact s_goto (tgt := 51) dX3_greatestGroup_47 (by decide) kk
theorem bX3_greatestGroup_50 {fr M1 M2 b1 b2 : Nat} {Q : RS → Nat → AH → Prop} {h : AH} {x0 x1 x2 x3 : AV}   (kk : Wp mX3_greatestGroup (kR fr M1 M2) Q (b1, b2) 51 [none, none, none, none] [zI 1] 137 h) : Wp mX3_greatestGroup (kR fr M1 M2) Q (b1, b2) 50 [x0, x1, x2, x3] [] 137 h := by
  refine s_fgt (fgt_n _ (fgt_n _ (fgt_n _ (fgt_n _ fgt_0)))) ?_
  refine s_iconst dX3_greatestGroup_50 ?_
  exact kk
theorem bX3_greatestGroup_51 {fr M1 M2 b1 b2 : Nat} {Q : RS → Nat → AH → Prop} {h : AH} {s0 : Int} {x0 x1 x2 x3 : AV}   (hq : Q (.inl (some (zI s0))) 137 h) : Wp mX3_greatestGroup (kR fr M1 M2) Q (b1, b2) 51 [x0, x1, x2, x3] [zI s0] 137 h := by
  refine s_fgt (fgt_n _ (fgt_n _ (fgt_n _ (fgt_n _ fgt_0)))) ?_
  exact s_ireturn dX3_greatestGroup_51 ⟨.int, rfl, rfl⟩ hq (fun z => by cases z)
theorem dX5_ticksTo_0 : decode mX5_ticksTo.cd 0 = .ok (.aload_n 0, 1) := by decide +kernel
theorem dX5_ticksTo_1 : decode mX5_ticksTo.cd 1 = .ok (.getfield 9, 3) := by decide +kernel
theorem dX5_ticksTo_4 : decode mX5_ticksTo.cd 4 = .ok (.iload 4, 2) := by decide +kernel
theorem dX5_ticksTo_6 : decode mX5_ticksTo.cd 6 = .ok (.aload_n 1, 1) := by decide +kernel
theorem dX5_ticksTo_7 : decode mX5_ticksTo.cd 7 = .ok (.getfield 18, 3) := by decide +kernel
theorem dX5_ticksTo_10 : decode mX5_ticksTo.cd 10 = .ok (.iload_n 2, 1) := by decide +kernel
theorem dX5_ticksTo_11 : decode mX5_ticksTo.cd 11 = .ok (.iaload, 1) := by decide +kernel
theorem dX5_ticksTo_12 : decode mX5_ticksTo.cd 12 = .ok (.isub, 1) := by decide +kernel
theorem dX5_ticksTo_13 : decode mX5_ticksTo.cd 13 = .ok (.invokestatic 23, 3) := by decide +kernel
theorem dX5_ticksTo_16 : decode mX5_ticksTo.cd 16 = .ok (.bipush 31, 2) := by decide +kernel
theorem dX5_ticksTo_18 : decode mX5_ticksTo.cd 18 = .ok (.imul, 1) := by decide +kernel
theorem dX5_ticksTo_19 : decode mX5_ticksTo.cd 19 = .ok (.iload_n 3, 1) := by decide +kernel
theorem dX5_ticksTo_20 : decode mX5_ticksTo.cd 20 = .ok (.aload_n 1, 1) := by decide +kernel
theorem dX5_ticksTo_21 : decode mX5_ticksTo.cd 21 = .ok (.getfield 29, 3) := by decide +kernel
theorem dX5_ticksTo_24 : decode mX5_ticksTo.cd 24 = .ok (.iload_n 2, 1) := by decide +kernel
theorem dX5_ticksTo_25 : decode mX5_ticksTo.cd 25 = .ok (.iaload, 1) := by decide +kernel
theorem dX5_ticksTo_26 : decode mX5_ticksTo.cd 26 = .ok (.isub, 1) := by decide +kernel
theorem dX5_ticksTo_27 : decode mX5_ticksTo.cd 27 = .ok (.invokestatic 23, 3) := by decide +kernel
theorem dX5_ticksTo_30 : decode mX5_ticksTo.cd 30 = .ok (.iadd, 1) := by decide +kernel
theorem dX5_ticksTo_31 : decode mX5_ticksTo.cd 31 = .ok (.iaload, 1) := by decide +kernel
theorem dX5_ticksTo_32 : decode mX5_ticksTo.cd 32 = .ok (.ireturn, 1) := by decide +kernel
theorem bX5_ticksTo_0 {fr M1 M2 b1 b2 : Nat} {Q : RS → Nat → AH → Prop} {h : AH} {l1 l2 l3 l4 : Int} (c1 : cel 137 l1 (8, 8) := by first | assumption | omega) (r1 : 0 ≤ l2 ∧ l2 < 3 := by omega) (r2 : 1 ≤ fr := by omega) (r3 : -2147483648 ≤ l4 - (h (l1 + 5) l2) ∧ l4 - (h (l1 + 5) l2) < 2147483648 := by omega) (r4 : -2147483648 ≤ l3 - (h (l1 + 4) l2) ∧ l3 - (h (l1 + 4) l2) < 2147483648 := by omega) (r5 : 0 ≤ ((if 0 ≤ l4 - (h (l1 + 5) l2) then l4 - (h (l1 + 5) l2) else 0 - (l4 - (h (l1 + 5) l2))) * 31) + (if 0 ≤ l3 - (h (l1 + 4) l2) then l3 - (h (l1 + 4) l2) else 0 - (l3 - (h (l1 + 4) l2))) ∧ ((if 0 ≤ l4 - (h (l1 + 5) l2) then l4 - (h (l1 + 5) l2) else 0 - (l4 - (h (l1 + 5) l2))) * 31) + (if 0 ≤ l3 - (h (l1 + 4) l2) then l3 - (h (l1 + 4) l2) else 0 - (l3 - (h (l1 + 4) l2))) < 961 := by omega) (hq : Q (.inl (some (zI (h 93 (((if 0 ≤ l4 - (h (l1 + 5) l2) then l4 - (h (l1 + 5) l2) else 0 - (l4 - (h (l1 + 5) l2))) * 31) + (if 0 ≤ l3 - (h (l1 + 4) l2) then l3 - (h (l1 + 4) l2) else 0 - (l3 - (h (l1 + 4) l2)))))))) 137 h) : Wp mX5_ticksTo (kR fr M1 M2) Q (b1, b2) 0 [zR 92, zR l1, zI l2, zI l3, zI l4] [] 137 h := by
  refine s_aload_n (x := 92) dX5_ticksTo_0 rfl ?_
  refine s_getFd (c := 92) (d := 93) dX5_ticksTo_1 lX5_9 e92 (Or.inl rfl) (by decide) (by decide) ?_
  refine s_iload (x := l4) dX5_ticksTo_4 rfl ?_
  refine s_aload_n (x := l1) dX5_ticksTo_6 rfl ?_
  refine s_getFd (c := l1) (d := l1 + 5) dX5_ticksTo_7 lX5_18 c1 (Or.inl rfl) rfl (ne0 (fin_X8_7 c1)) ?_
  refine s_iload_n (x := l2) dX5_ticksTo_10 rfl ?_
  refine s_iald (c := l1 + 5) (i := l2) dX5_ticksTo_11 (fin_X8_7 c1) r1.1 r1.2 ?_
  refine s_isub dX5_ticksTo_12 ?_
  refine s_mabs dX5_ticksTo_13 wd1247 wd1248 wd19 wd1249 r2 (Nat.le_of_ble_eq_true rfl) r3 ?_
  refine s_bipush dX5_ticksTo_16 (by decide) ?_
  refine s_imul dX5_ticksTo_18 ?_
  refine s_iload_n (x := l3) dX5_ticksTo_19 rfl ?_
  refine s_aload_n (x := l1) dX5_ticksTo_20 rfl ?_
  refine s_getFd (c := l1) (d := l1 + 4) dX5_ticksTo_21 lX5_29 c1 (Or.inl rfl) rfl (ne0 (fin_X8_6 c1)) ?_
  refine s_iload_n (x := l2) dX5_ticksTo_24 rfl ?_
  refine s_iald (c := l1 + 4) (i := l2) dX5_ticksTo_25 (fin_X8_6 c1) r1.1 r1.2 ?_
  refine s_isub dX5_ticksTo_26 ?_
  refine s_mabs dX5_ticksTo_27 wd1247 wd1248 wd19 wd1249 r2 (Nat.le_of_ble_eq_true rfl) r4 ?_
  refine s_iadd dX5_ticksTo_30 ?_
  refine s_iald (c := 93) (i := ((if 0 ≤ l4 - (h (l1 + 5) l2) then l4 - (h (l1 + 5) l2) else 0 - (l4 - (h (l1 + 5) l2))) * 31) + (if 0 ≤ l3 - (h (l1 + 4) l2) then l3 - (h (l1 + 4) l2) else 0 - (l3 - (h (l1 + 4) l2)))) dX5_ticksTo_31 e93 r5.1 r5.2 ?_
  exact s_ireturn dX5_ticksTo_32 ⟨.int, rfl, rfl⟩ hq (fun z => by cases z)
theorem dX5_matches_0 : decode mX5_matches.cd 0 = .ok (.aload_n 0, 1) := by decide +kernel
theorem dX5_matches_1 : decode mX5_matches.cd 1 = .ok (.aload_n 1, 1) := by decide +kernel
theorem dX5_matches_2 : decode mX5_matches.cd 2 = .ok (.iconst 0, 1) := by decide +kernel
theorem dX5_matches_3 : decode mX5_matches.cd 3 = .ok (.iload 4, 2) := by decide +kernel
theorem dX5_matches_5 : decode mX5_matches.cd 5 = .ok (.iload 5, 2) := by decide +kernel
theorem dX5_matches_7 : decode mX5_matches.cd 7 = .ok (.invokevirtual 32, 3) := by decide +kernel
theorem dX5_matches_10 : decode mX5_matches.cd 10 = .ok (.istore 6, 2) := by decide +kernel
theorem dX5_matches_12 : decode mX5_matches.cd 12 = .ok (.aload_n 0, 1) := by decide +kernel
theorem dX5_matches_13 : decode mX5_matches.cd 13 = .ok (.aload_n 1, 1) := by decide +kernel
theorem dX5_matches_14 : decode mX5_matches.cd 14 = .ok (.iconst 1, 1) := by decide +kernel
theorem dX5_matches_15 : decode mX5_matches.cd 15 = .ok (.iload 4, 2) := by decide +kernel
theorem dX5_matches_17 : decode mX5_matches.cd 17 = .ok (.iload 5, 2) := by decide +kernel
theorem dX5_matches_19 : decode mX5_matches.cd 19 = .ok (.invokevirtual 32, 3) := by decide +kernel
theorem dX5_matches_22 : decode mX5_matches.cd 22 = .ok (.iload 6, 2) := by decide +kernel
theorem dX5_matches_24 : decode mX5_matches.cd 24 = .ok (.isub, 1) := by decide +kernel
theorem dX5_matches_25 : decode mX5_matches.cd 25 = .ok (.iload_n 2, 1) := by decide +kernel
theorem dX5_matches_26 : decode mX5_matches.cd 26 = .ok (.if_icmp .ne 24, 3) := by decide +kernel
theorem dX5_matches_29 : decode mX5_matches.cd 29 = .ok (.aload_n 0, 1) := by decide +kernel
theorem dX5_matches_30 : decode mX5_matches.cd 30 = .ok (.aload_n 1, 1) := by decide +kernel
theorem dX5_matches_31 : decode mX5_matches.cd 31 = .ok (.iconst 2, 1) := by decide +kernel
theorem dX5_matches_32 : decode mX5_matches.cd 32 = .ok (.iload 4, 2) := by decide +kernel
theorem dX5_matches_34 : decode mX5_matches.cd 34 = .ok (.iload 5, 2) := by decide +kernel
theorem dX5_matches_36 : decode mX5_matches.cd 36 = .ok (.invokevirtual 32, 3) := by decide +kernel
theorem dX5_matches_39 : decode mX5_matches.cd 39 = .ok (.iload 6, 2) := by decide +kernel
theorem dX5_matches_41 : decode mX5_matches.cd 41 = .ok (.isub, 1) := by decide +kernel
theorem dX5_matches_42 : decode mX5_matches.cd 42 = .ok (.iload_n 3, 1) := by decide +kernel
theorem dX5_matches_43 : decode mX5_matches.cd 43 = .ok (.if_icmp .ne 7, 3) := by decide +kernel
theorem dX5_matches_46 : decode mX5_matches.cd 46 = .ok (.iconst 1, 1) := by decide +kernel
theorem dX5_matches_47 : decode mX5_matches.cd 47 = .ok (.goto 4, 3) := by decide +kernel
theorem dX5_matches_50 : decode mX5_matches.cd 50 = .ok (.iconst 0, 1) := by decide +kernel
theorem dX5_matches_51 : decode mX5_matches.cd 51 = .ok (.ireturn, 1) := by decide +kernel
theorem bX5_matches_0 {fr M1 M2 b1 b2 : Nat} {Q : RS → Nat → AH → Prop} {h : AH} {l1 l2 l3 l4 l5 : Int} {x6 : AV} {R : Int → AH → Prop}   (hS : Sp mX5_ticksTo true (fr - 1) 0 0 [zR 92, zR l1, zI 0, zI l4, zI l5] 137 h (rI R)) (hf : 1 ≤ fr := by omega) (kk : ∀ (x : Int) (h' : AH), R x h' → Wp mX5_matches (kR fr M1 M2) Q (b1, b2) 10 [zR 92, zR l1, zI l2, zI l3, zI l4, zI l5, none] [zI x] 137 h') : Wp mX5_matches (kR fr M1 M2) Q (b1, b2) 0 [zR 92, zR l1, zI l2, zI l3, zI l4, zI l5, x6] [] 137 h := by
  refine s_fgt (fgt_c (fgt_c (fgt_c (fgt_c (fgt_c (fgt_c (fgt_n _ fgt_0))))))) ?_
  refine s_aload_n (x := 92) dX5_matches_0 rfl ?_
  refine s_aload_n (x := l1) dX5_matches_1 rfl ?_
  refine s_iconst dX5_matches_2 ?_
  refine s_iload (x := l4) dX5_matches_3 rfl ?_
  refine s_iload (x := l5) dX5_matches_5 rfl ?_
  exact s_callV (as := [zR l1, zI 0, zI l4, zI l5]) (st := []) (o := 92) dX5_matches_7 kX5_32 rfl ⟨5, 2, TX5, e92, rfl, by decide⟩ rfl rfl (Nat.le_of_ble_eq_true rfl) hS (show fr - 1 + 1 ≤ fr by omega) (Nat.zero_le _) (Nat.zero_le _) (fun v n' h' hP _ => by obtain ⟨x, e, rfl, hR⟩ := hP; cases e; exact kk x h' hR) (fun E n' h' _ z => (rI_nt _ _ _ z).elim)
theorem bX5_matches_10 {fr M1 M2 b1 b2 : Nat} {Q : RS → Nat → AH → Prop} {h : AH} {l1 l2 l3 l4 l5 s0 : Int} {x6 : AV} {R : Int → AH → Prop}   (hS : Sp mX5_ticksTo true (fr - 1) 0 0 [zR 92, zR l1, zI 1, zI l4, zI l5] 137 h (rI R)) (hf : 1 ≤ fr := by omega) (kk : ∀ (x : Int) (h' : AH), R x h' → Wp mX5_matches (kR fr M1 M2) Q (b1, b2) 22 [zR 92, zR l1, zI l2, zI l3, zI l4, zI l5, zI s0] [zI x] 137 h') : Wp mX5_matches (kR fr M1 M2) Q (b1, b2) 10 [zR 92, zR l1, zI l2, zI l3, zI l4, zI l5, x6] [zI s0] 137 h := by
  refine s_fgt (fgt_c (fgt_c (fgt_c (fgt_c (fgt_c (fgt_c (fgt_n _ fgt_0))))))) ?_
  refine s_istore dX5_matches_10 rfl (by decide) ?_
  refine s_aload_n (x := 92) dX5_matches_12 rfl ?_
  refine s_aload_n (x := l1) dX5_matches_13 rfl ?_
  refine s_iconst dX5_matches_14 ?_
  refine s_iload (x := l4) dX5_matches_15 rfl ?_
  refine s_iload (x := l5) dX5_matches_17 rfl ?_
  exact s_callV (as := [zR l1, zI 1, zI l4, zI l5]) (st := []) (o := 92) dX5_matches_19 kX5_32 rfl ⟨5, 2, TX5, e92, rfl, by decide⟩ rfl rfl (Nat.le_of_ble_eq_true rfl) hS (show fr - 1 + 1 ≤ fr by omega) (Nat.zero_le _) (Nat.zero_le _) (fun v n' h' hP _ => by obtain ⟨x, e, rfl, hR⟩ := hP; cases e; exact kk x h' hR) (fun E n' h' _ z => (rI_nt _ _ _ z).elim)
theorem bX5_matches_22 {fr M1 M2 b1 b2 : Nat} {Q : RS → Nat → AH → Prop} {h : AH} {l1 l2 l3 l4 l5 l6 s0 : Int}  (r1 : -2147483648 ≤ s0 - l6 ∧ s0 - l6 < 2147483648 := by omega) (r2 : -2147483648 ≤ l2 ∧ l2 < 2147483648 := by omega) (kt : ¬ s0 - l6 = l2 → Wp mX5_matches (kR fr M1 M2) Q (b1, b2) 50 [zR 92, zR l1, zI l2, zI l3, zI l4, zI l5, zI l6] [] 137 h) (kf : s0 - l6 = l2 → Wp mX5_matches (kR fr M1 M2) Q (b1, b2) 29 [zR 92, zR l1, zI l2, zI l3, zI l4, zI l5, zI l6] [] 137 h) : Wp mX5_matches (kR fr M1 M2) Q (b1, b2) 22 [zR 92, zR l1, zI l2, zI l3, zI l4, zI l5, zI l6] [zI s0] 137 h := by
  refine s_iload (x := l6) dX5_matches_22 rfl ?_
  refine s_isub dX5_matches_24 ?_
  refine s_iload_n (x := l2) dX5_matches_25 rfl ?_
  exact s_icmp_ne (tgt := 50) dX5_matches_26 (by decide) r1 r2 kt kf
theorem bX5_matches_29 {fr M1 M2 b1 b2 : Nat} {Q : RS → Nat → AH → Prop} {h : AH} {l1 l3 l4 l5 l6 : Int} {x2 : AV} {R : Int → AH → Prop}   (hS : Sp mX5_ticksTo true (fr - 1) 0 0 [zR 92, zR l1, zI 2, zI l4, zI l5] 137 h (rI R)) (hf : 1 ≤ fr := by omega) (kk : ∀ (x : Int) (h' : AH), R x h' → Wp mX5_matches (kR fr M1 M2) Q (b1, b2) 39 [zR 92, zR l1, none, zI l3, zI l4, zI l5, zI l6] [zI x] 137 h') : Wp mX5_matches (kR fr M1 M2) Q (b1, b2) 29 [zR 92, zR l1, x2, zI l3, zI l4, zI l5, zI l6] [] 137 h := by
  refine s_fgt (fgt_c (fgt_c (fgt_n _ (fgt_c (fgt_c (fgt_c (fgt_c fgt_0))))))) ?_
  refine s_aload_n (x := 92) dX5_matches_29 rfl ?_
  refine s_aload_n (x := l1) dX5_matches_30 rfl ?_
  refine s_iconst dX5_matches_31 ?_
  refine s_iload (x := l4) dX5_matches_32 rfl ?_
  refine s_iload (x := l5) dX5_matches_34 rfl ?_
  exact s_callV (as := [zR l1, zI 2, zI l4, zI l5]) (st := []) (o := 92) dX5_matches_36 kX5_32 rfl ⟨5, 2, TX5, e92, rfl, by decide⟩ rfl rfl (Nat.le_of_ble_eq_true rfl) hS (show fr - 1 + 1 ≤ fr by omega) (Nat.zero_le _) (Nat.zero_le _) (fun v n' h' hP _ => by obtain ⟨x, e, rfl, hR⟩ := hP; cases e; exact kk x h' hR) (fun E n' h' _ z => (rI_nt _ _ _ z).elim)
theorem bX5_matches_39 {fr M1 M2 b1 b2 : Nat} {Q : RS → Nat → AH → Prop} {h : AH} {l3 l6 s0 : Int} {x0 x1 x2 x4 x5 : AV}  (r1 : -2147483648 ≤ s0 - l6 ∧ s0 - l6 < 2147483648 := by omega) (r2 : -2147483648 ≤ l3 ∧ l3 < 2147483648 := by omega) (kt : ¬ s0 - l6 = l3 → Wp mX5_matches (kR fr M1 M2) Q (b1, b2) 50 [none, none, none, zI l3, none, none, zI l6] [] 137 h) (kf : s0 - l6 = l3 → Wp mX5_matches (kR fr M1 M2) Q (b1, b2) 46 [none, none, none, zI l3, none, none, zI l6] [] 137 h) : Wp mX5_matches (kR fr M1 M2) Q (b1, b2) 39 [x0, x1, x2, zI l3, x4, x5, zI l6] [zI s0] 137 h := by
  refine s_fgt (fgt_n _ (fgt_n _ (fgt_n _ (fgt_c (fgt_n _ (fgt_n _ (fgt_c fgt_0))))))) ?_
  refine s_iload (x := l6) dX5_matches_39 rfl ?_
  refine s_isub dX5_matches_41 ?_
  refine s_iload_n (x := l3) dX5_matches_42 rfl ?_
  exact s_icmp_ne (tgt := 50) dX5_matches_43 (by decide) r1 r2 kt kf
theorem bX5_matches_46 {fr M1 M2 b1 b2 : Nat} {Q : RS → Nat → AH → Prop} {h : AH} {x0 x1 x2 x3 x4 x5 x6 : AV}   (kk : Wp mX5_matches (kR fr M1 M2) Q (b1, b2) 51 [none, none, none, none, none, none, none] [zI 1] 137 h) : Wp mX5_matches (kR fr M1 M2) Q (b1, b2) 46 [x0, x1, x2, x3, x4, x5, x6] [] 137 h := by
  refine s_fgt (fgt_n _ (fgt_n _ (fgt_n _ (fgt_n _ (fgt_n _ (fgt_n _ (fgt_n _ fgt_0))))))) ?_
  refine s_iconst dX5_matches_46 ?_
  exact s_goto (tgt := 51) dX5_matches_47 (by decide) kk
theorem bX5_matches_50 {fr M1 M2 b1 b2 : Nat} {Q : RS → Nat → AH → Prop} {h : AH} {x0 x1 x2 x3 x4 x5 x6 : AV}   (kk : Wp mX5_matches (kR fr M1 M2) Q (b1, b2) 51 [none, none, none, none, none, none, none] [zI 0] 137 h) : Wp mX5_matches (kR fr M1 M2) Q (b1, b2) 50 [x0, x1, x2, x3, x4, x5, x6] [] 137 h := by
  refine s_fgt (fgt_n _ (fgt_n _ (fgt_n _ (fgt_n _ (fgt_n _ (fgt_n _ (fgt_n _ fgt_0))))))) ?_
  refine s_iconst dX5_matches_50 ?_
  exact kk
theorem bX5_matches_51 {fr M1 M2 b1 b2 : Nat} {Q : RS → Nat → AH → Prop} {h : AH} {s0 : Int} {x0 x1 x2 x3 x4 x5 x6 : AV}  (r1 : s0 = 0 ∨ s0 = 1 := by omega) (hq : Q (.inl (some (zI s0))) 137 h) : Wp mX5_matches (kR fr M1 M2) Q (b1, b2) 51 [x0, x1, x2, x3, x4, x5, x6] [zI s0] 137 h := by
  refine s_fgt (fgt_n _ (fgt_n _ (fgt_n _ (fgt_n _ (fgt_n _ (fgt_n _ (fgt_n _ fgt_0))))))) ?_
  exact s_ireturn dX5_matches_51 ⟨.boolean, rfl, bool_nar r1⟩ hq (fun z => by cases z)
theorem dX5_countMatching_0 : decode mX5_countMatching.cd 0 = .ok (.iconst 0, 1) := by decide +kernel
theorem dX5_countMatching_1 : decode mX5_countMatching.cd 1 = .ok (.istore 4, 2) := by decide +kernel
theorem dX5_countMatching_3 : decode mX5_countMatching.cd 3 = .ok (.iconst 0, 1) := by decide +kernel
theorem dX5_countMatching_4 : decode mX5_countMatching.cd 4 = .ok (.istore 5, 2) := by decide +kernel
theorem dX5_countMatching_6 : decode mX5_countMatching.cd 6 = .ok (.iload 5, 2) := by decide +kernel
theorem dX5_countMatching_8 : decode mX5_countMatching.cd 8 = .ok (.sipush 961, 3) := by decide +kernel
theorem dX5_countMatching_11 : decode mX5_countMatching.cd 11 = .ok (.if_icmp .ge 32, 3) := by decide +kernel
theorem dX5_countMatching_14 : decode mX5_countMatching.cd 14 = .ok (.aload_n 0, 1) := by decide +kernel
theorem dX5_countMatching_15 : decode mX5_countMatching.cd 15 = .ok (.aload_n 1, 1) := by decide +kernel
theorem dX5_countMatching_16 : decode mX5_countMatching.cd 16 = .ok (.iload_n 2, 1) := by decide +kernel
theorem dX5_countMatching_17 : decode mX5_countMatching.cd 17 = .ok (.iload_n 3, 1) := by decide +kernel
theorem dX5_countMatching_18 : decode mX5_countMatching.cd 18 = .ok (.iload 5, 2) := by decide +kernel
theorem dX5_countMatching_20 : decode mX5_countMatching.cd 20 = .ok (.bipush 31, 2) := by decide +kernel
theorem dX5_countMatching_22 : decode mX5_countMatching.cd 22 = .ok (.irem, 1) := by decide +kernel
theorem dX5_countMatching_23 : decode mX5_countMatching.cd 23 = .ok (.iload 5, 2) := by decide +kernel
theorem dX5_countMatching_25 : decode mX5_countMatching.cd 25 = .ok (.bipush 31, 2) := by decide +kernel
theorem dX5_countMatching_27 : decode mX5_countMatching.cd 27 = .ok (.idiv, 1) := by decide +kernel
theorem dX5_countMatching_28 : decode mX5_countMatching.cd 28 = .ok (.invokevirtual 36, 3) := by decide +kernel
theorem dX5_countMatching_31 : decode mX5_countMatching.cd 31 = .ok (.ifCond .eq 6, 3) := by decide +kernel
theorem dX5_countMatching_34 : decode mX5_countMatching.cd 34 = .ok (.iinc 4 1, 3) := by decide +kernel
theorem dX5_countMatching_37 : decode mX5_countMatching.cd 37 = .ok (.iinc 5 1, 3) := by decide +kernel
theorem dX5_countMatching_40 : decode mX5_countMatching.cd 40 = .ok (.goto (-34), 3) := by decide +kernel
theorem dX5_countMatching_43 : decode mX5_countMatching.cd 43 = .ok (.iload 4, 2) := by decide +kernel
theorem dX5_countMatching_45 : decode mX5_countMatching.cd 45 = .ok (.ireturn, 1) := by decide +kernel
theorem bX5_countMatching_0 {fr M1 M2 b1 b2 : Nat} {Q : RS → Nat → AH → Prop} {h : AH} {l1 l2 l3 : Int} {x4 x5 : AV}   (kk : Wp mX5_countMatching (kR fr M1 M2) Q (b1, b2) 6 [zR 92, zR l1, zI l2, zI l3, zI 0, zI 0] [] 137 h) : Wp mX5_countMatching (kR fr M1 M2) Q (b1, b2) 0 [zR 92, zR l1, zI l2, zI l3, x4, x5] [] 137 h := by
  refine s_fgt (fgt_c (fgt_c (fgt_c (fgt_c (fgt_n _ (fgt_n _ fgt_0)))))) ?_
  refine s_iconst dX5_countMatching_0 ?_
  refine s_istore dX5_countMatching_1 rfl (by decide) ?_
  refine s_iconst dX5_countMatching_3 ?_
  refine s_istore dX5_countMatching_4 rfl (by decide) ?_
  exact kk
theorem bX5_countMatching_6 {fr M1 M2 b1 b2 : Nat} {Q : RS → Nat → AH → Prop} {h : AH} {l1 l2 l3 l4 l5 : Int}  (r1 : -2147483648 ≤ l5 ∧ l5 < 2147483648 := by omega) (kt : 961 ≤ l5 → Wp mX5_countMatching (kR fr M1 M2) Q (b1, b2) 43 [zR 92, zR l1, zI l2, zI l3, zI l4, zI l5] [] 137 h) (kf : l5 < 961 → Wp mX5_countMatching (kR fr M1 M2) Q (b1, b2) 14 [zR 92, zR l1, zI l2, zI l3, zI l4, zI l5] [] 137 h) : Wp mX5_countMatching (kR fr M1 M2) Q (b1, b2) 6 [zR 92, zR l1, zI l2, zI l3, zI l4, zI l5] [] 137 h := by
  refine s_iload (x := l5) dX5_countMatching_6 rfl ?_
  refine s_sipush dX5_countMatching_8 (by decide) ?_
  exact s_icmp_ge (tgt := 43) dX5_countMatching_11 (by decide) r1 ⟨by decide, by decide⟩ kt kf
theorem bX5_countMatching_14 {fr M1 M2 b1 b2 : Nat} {Q : RS → Nat → AH → Prop} {h : AH} {l1 l2 l3 l4 l5 : Int} {R : Int → AH → Prop}  (r1 : 0 ≤ l5 ∧ l5 < 2147483648 := by omega) (hS : Sp mX5_matches true (fr - 1) 0 0 [zR 92, zR l1, zI l2, zI l3, zI (l5 % 31), zI (l5 / 31)] 137 h (rI R)) (hf : 1 ≤ fr := by omega) (kk : ∀ (x : Int) (h' : AH), R x h' → Wp mX5_countMatching (kR fr M1 M2) Q (b1, b2) 31 [zR 92, zR l1, zI l2, zI l3, zI l4, zI l5] [zI x] 137 h') : Wp mX5_countMatching (kR fr M1 M2) Q (b1, b2) 14 [zR 92, zR l1, zI l2, zI l3, zI l4, zI l5] [] 137 h := by
  refine s_aload_n (x := 92) dX5_countMatching_14 rfl ?_
  refine s_aload_n (x := l1) dX5_countMatching_15 rfl ?_
  refine s_iload_n (x := l2) dX5_countMatching_16 rfl ?_
  refine s_iload_n (x := l3) dX5_countMatching_17 rfl ?_
  refine s_iload (x := l5) dX5_countMatching_18 rfl ?_
  refine s_bipush dX5_countMatching_20 (by decide) ?_
  refine s_iremN dX5_countMatching_22 r1.1 r1.2 (by decide) (by decide) ?_
  refine s_iload (x := l5) dX5_countMatching_23 rfl ?_
  refine s_bipush dX5_countMatching_25 (by decide) ?_
  refine s_idivN dX5_countMatching_27 r1.1 r1.2 (by decide) (by decide) ?_
  exact s_callV (as := [zR l1, zI l2, zI l3, zI (l5 % 31), zI (l5 / 31)]) (st := []) (o := 92) dX5_countMatching_28 kX5_36 rfl ⟨5, 2, TX5, e92, rfl, by decide⟩ rfl rfl (Nat.le_of_ble_eq_true rfl) hS (show fr - 1 + 1 ≤ fr by omega) (Nat.zero_le _) (Nat.zero_le _) (fun v n' h' hP _ => by obtain ⟨x, e, rfl, hR⟩ := hP; cases e; exact kk x h' hR) (fun E n' h' _ z => (rI_nt _ _ _ z).elim)
theorem bX5_countMatching_31 {fr M1 M2 b1 b2 : Nat} {Q : RS → Nat → AH → Prop} {h : AH} {l1 l2 l3 l4 l5 s0 : Int}  (r1 : -2147483648 ≤ s0 ∧ s0 < 2147483648 := by omega) (kt : s0 = 0 → Wp mX5_countMatching (kR fr M1 M2) Q (b1, b2) 37 [zR 92, zR l1, zI l2, zI l3, zI l4, zI l5] [] 137 h) (kf : ¬ s0 = 0 → Wp mX5_countMatching (kR fr M1 M2) Q (b1, b2) 34 [zR 92, zR l1, zI l2, zI l3, zI l4, zI l5] [] 137 h) : Wp mX5_countMatching (kR fr M1 M2) Q (b1, b2) 31 [zR 92, zR l1, zI l2, zI l3, zI l4, zI l5] [zI s0] 137 h := by
  exact s_if_eq (tgt := 37) dX5_countMatching_31 (by decide) r1 kt kf
theorem bX5_countMatching_34 {fr M1 M2 b1 b2 : Nat} {Q : RS → Nat → AH → Prop} {h : AH} {l1 l2 l3 l4 l5 : Int}   (kk : Wp mX5_countMatching (kR fr M1 M2) Q (b1, b2) 37 [zR 92, zR l1, zI l2, zI l3, zI (l4 + 1), zI l5] [] 137 h) : Wp mX5_countMatching (kR fr M1 M2) Q (b1, b2) 34 [zR 92, zR l1, zI l2, zI l3, zI l4, zI l5] [] 137 h := by
  refine s_iinc (x := l4) dX5_countMatching_34 rfl rfl (by decide) ?_
  exact kk
theorem bX5_countMatching_37 {fr M1 M2 b1 b2 : Nat} {Q : RS → Nat → AH → Prop} {h : AH} {l1 l2 l3 l4 l5 : Int}   (kk : Wp mX5_countMatching (kR fr M1 M2) Q (b1, b2) 6 [zR 92, zR l1, zI l2, zI l3, zI l4, zI (l5 + 1)] [] 137 h) : Wp mX5_countMatching (kR fr M1 M2) Q (b1, b2) 37 [zR 92, zR l1, zI l2, zI l3, zI l4, zI l5] [] 137 h := by
  refine s_iinc (x := l5) dX5_countMatching_37 rfl rfl (by decide) ?_
  exact s_goto (tgt := 6) dX5_countMatching_40 (by decide) kk
theorem bX5_countMatching_43 {fr M1 M2 b1 b2 : Nat} {Q : RS → Nat → AH → Prop} {h : AH} {l4 : Int} {x0 x1 x2 x3 x5 : AV}   (hq : Q (.inl (some (zI l4))) 137 h) : Wp mX5_countMatching (kR fr M1 M2) Q (b1, b2) 43 [x0, x1, x2, x3, zI l4, x5] [] 137 h := by
  refine s_fgt (fgt_n _ (fgt_n _ (fgt_n _ (fgt_n _ (fgt_c (fgt_n _ fgt_0)))))) ?_
  refine s_iload (x := l4) dX5_countMatching_43 rfl ?_
  exact s_ireturn dX5_countMatching_45 ⟨.int, rfl, rfl⟩ hq (fun z => by cases z)
theorem dX5_findMatching_0 : decode mX5_findMatching.cd 0 = .ok (.iload 4, 2) := by decide +kernel
theorem dX5_findMatching_2 : decode mX5_findMatching.cd 2 = .ok (.ifCond .ge 5, 3) := by decide +kernel
theorem dX5_findMatching_5 : decode mX5_findMatching.cd 5 = .ok (.iconst (-1), 1) := by decide +kernel
theorem dX5_findMatching_6 : decode mX5_findMatching.cd 6 = .ok (.ireturn, 1) := by decide +kernel
theorem dX5_findMatching_7 : decode mX5_findMatching.cd 7 = .ok (.iload 4, 2) := by decide +kernel
theorem dX5_findMatching_9 : decode mX5_findMatching.cd 9 = .ok (.istore 5, 2) := by decide +kernel
theorem dX5_findMatching_11 : decode mX5_findMatching.cd 11 = .ok (.iconst 0, 1) := by decide +kernel
theorem dX5_findMatching_12 : decode mX5_findMatching.cd 12 = .ok (.istore 6, 2) := by decide +kernel
theorem dX5_findMatching_14 : decode mX5_findMatching.cd 14 = .ok (.iload 6, 2) := by decide +kernel
theorem dX5_findMatching_16 : decode mX5_findMatching.cd 16 = .ok (.sipush 961, 3) := by decide +kernel
theorem dX5_findMatching_19 : decode mX5_findMatching.cd 19 = .ok (.if_icmp .ge 40, 3) := by decide +kernel
theorem dX5_findMatching_22 : decode mX5_findMatching.cd 22 = .ok (.aload_n 0, 1) := by decide +kernel
theorem dX5_findMatching_23 : decode mX5_findMatching.cd 23 = .ok (.aload_n 1, 1) := by decide +kernel
theorem dX5_findMatching_24 : decode mX5_findMatching.cd 24 = .ok (.iload_n 2, 1) := by decide +kernel
theorem dX5_findMatching_25 : decode mX5_findMatching.cd 25 = .ok (.iload_n 3, 1) := by decide +kernel
theorem dX5_findMatching_26 : decode mX5_findMatching.cd 26 = .ok (.iload 6, 2) := by decide +kernel
theorem dX5_findMatching_28 : decode mX5_findMatching.cd 28 = .ok (.bipush 31, 2) := by decide +kernel
theorem dX5_findMatching_30 : decode mX5_findMatching.cd 30 = .ok (.irem, 1) := by decide +kernel
theorem dX5_findMatching_31 : decode mX5_findMatching.cd 31 = .ok (.iload 6, 2) := by decide +kernel
theorem dX5_findMatching_33 : decode mX5_findMatching.cd 33 = .ok (.bipush 31, 2) := by decide +kernel
theorem dX5_findMatching_35 : decode mX5_findMatching.cd 35 = .ok (.idiv, 1) := by decide +kernel
theorem dX5_findMatching_36 : decode mX5_findMatching.cd 36 = .ok (.invokevirtual 36, 3) := by decide +kernel
theorem dX5_findMatching_39 : decode mX5_findMatching.cd 39 = .ok (.ifCond .eq 14, 3) := by decide +kernel
theorem dX5_findMatching_42 : decode mX5_findMatching.cd 42 = .ok (.iload 5, 2) := by decide +kernel
theorem dX5_findMatching_44 : decode mX5_findMatching.cd 44 = .ok (.ifCond .ne 6, 3) := by decide +kernel
theorem dX5_findMatching_47 : decode mX5_findMatching.cd 47 = .ok (.iload 6, 2) := by decide +kernel
theorem dX5_findMatching_49 : decode mX5_findMatching.cd 49 = .ok (.ireturn, 1) := by decide +kernel
theorem dX5_findMatching_50 : decode mX5_findMatching.cd 50 = .ok (.iinc 5 (-1), 3) := by decide +kernel
theorem dX5_findMatching_53 : decode mX5_findMatching.cd 53 = .ok (.iinc 6 1, 3) := by decide +kernel
theorem dX5_findMatching_56 : decode mX5_findMatching.cd 56 = .ok (.goto (-42), 3) := by decide +kernel
theorem dX5_findMatching_59 : decode mX5_findMatching.cd 59 = .ok (.iconst (-1), 1) := by decide +kernel
theorem dX5_findMatching_60 : decode mX5_findMatching.cd 60 = .ok (.ireturn, 1) := by decide +kernel
theorem bX5_findMatching_0 {fr M1 M2 b1 b2 : Nat} {Q : RS → Nat → AH → Prop} {h : AH} {l1 l2 l3 l4 : Int} {x5 x6 : AV}  (r1 : -2147483648 ≤ l4 ∧ l4 < 2147483648 := by omega) (kt : 0 ≤ l4 → Wp mX5_findMatching (kR fr M1 M2) Q (b1, b2) 7 [zR 92, zR l1, zI l2, zI l3, zI l4, none, none] [] 137 h) (kf : l4 < 0 → Wp mX5_findMatching (kR fr M1 M2) Q (b1, b2) 5 [zR 92, zR l1, zI l2, zI l3, zI l4, none, none] [] 137 h) : Wp mX5_findMatching (kR fr M1 M2) Q (b1, b2) 0 [zR 92, zR l1, zI l2, zI l3, zI l4, x5, x6] [] 137 h := by
  refine s_fgt (fgt_c (fgt_c (fgt_c (fgt_c (fgt_c (fgt_n _ (fgt_n _ fgt_0))))))) ?_
  refine s_iload (x := l4) dX5_findMatching_0 rfl ?_
  exact s_if_ge (tgt := 7) dX5_findMatching_2 (by decide) r1 kt kf
theorem bX5_findMatching_5 {fr M1 M2 b1 b2 : Nat} {Q : RS → Nat → AH → Prop} {h : AH} {x0 x1 x2 x3 x4 x5 x6 : AV}   (hq : Q (.inl (some (zI (-1)))) 137 h) : Wp mX5_findMatching (kR fr M1 M2) Q (b1, b2) 5 [x0, x1, x2, x3, x4, x5, x6] [] 137 h := by
  refine s_fgt (fgt_n _ (fgt_n _ (fgt_n _ (fgt_n _ (fgt_n _ (fgt_n _ (fgt_n _ fgt_0))))))) ?_
  refine s_iconst dX5_findMatching_5 ?_
  exact s_ireturn dX5_findMatching_6 ⟨.int, rfl, rfl⟩ hq (fun z => by cases z)
theorem bX5_findMatching_7 {fr M1 M2 b1 b2 : Nat} {Q : RS → Nat → AH → Prop} {h : AH} {l1 l2 l3 l4 : Int} {x5 x6 : AV}   (kk : Wp mX5_findMatching (kR fr M1 M2) Q (b1, b2) 14 [zR 92, zR l1, zI l2, zI l3, zI l4, zI l4, zI 0] [] 137 h) : Wp mX5_findMatching (kR fr M1 M2) Q (b1, b2) 7 [zR 92, zR l1, zI l2, zI l3, zI l4, x5, x6] [] 137 h := by
  refine s_fgt (fgt_c (fgt_c (fgt_c (fgt_c (fgt_c (fgt_n _ (fgt_n _ fgt_0))))))) ?_
  refine s_iload (x := l4) dX5_findMatching_7 rfl ?_
  refine s_istore dX5_findMatching_9 rfl (by decide) ?_
  refine s_iconst dX5_findMatching_11 ?_
  refine s_istore dX5_findMatching_12 rfl (by decide) ?_
  exact kk
theorem bX5_findMatching_14 {fr M1 M2 b1 b2 : Nat} {Q : RS → Nat → AH → Prop} {h : AH} {l1 l2 l3 l5 l6 : Int} {x4 : AV}  (r1 : -2147483648 ≤ l6 ∧ l6 < 2147483648 := by omega) (kt : 961 ≤ l6 → Wp mX5_findMatching (kR fr M1 M2) Q (b1, b2) 59 [zR 92, zR l1, zI l2, zI l3, none, zI l5, zI l6] [] 137 h) (kf : l6 < 961 → Wp mX5_findMatching (kR fr M1 M2) Q (b1, b2) 22 [zR 92, zR l1, zI l2, zI l3, none, zI l5, zI l6] [] 137 h) : Wp mX5_findMatching (kR fr M1 M2) Q (b1, b2) 14 [zR 92, zR l1, zI l2, zI l3, x4, zI l5, zI l6] [] 137 h := by
  refine s_fgt (fgt_c (fgt_c (fgt_c (fgt_c (fgt_n _ (fgt_c (fgt_c fgt_0))))))) ?_
  refine s_iload (x := l6) dX5_findMatching_14 rfl ?_
  refine s_sipush dX5_findMatching_16 (by decide) ?_
  exact s_icmp_ge (tgt := 59) dX5_findMatching_19 (by decide) r1 ⟨by decide, by decide⟩ kt kf
theorem bX5_findMatching_22 {fr M1 M2 b1 b2 : Nat} {Q : RS → Nat → AH → Prop} {h : AH} {l1 l2 l3 l5 l6 : Int} {x4 : AV} {R : Int → AH → Prop}  (r1 : 0 ≤ l6 ∧ l6 < 2147483648 := by omega) (hS : Sp mX5_matches true (fr - 1) 0 0 [zR 92, zR l1, zI l2, zI l3, zI (l6 % 31), zI (l6 / 31)] 137 h (rI R)) (hf : 1 ≤ fr := by omega) (kk : ∀ (x : Int) (h' : AH), R x h' → Wp mX5_findMatching (kR fr M1 M2) Q (b1, b2) 39 [zR 92, zR l1, zI l2, zI l3, none, zI l5, zI l6] [zI x] 137 h') : Wp mX5_findMatching (kR fr M1 M2) Q (b1, b2) 22 [zR 92, zR l1, zI l2, zI l3, x4, zI l5, zI l6] [] 137 h := by
  refine s_fgt (fgt_c (fgt_c (fgt_c (fgt_c (fgt_n _ (fgt_c (fgt_c fgt_0))))))) ?_
  refine s_aload_n (x := 92) dX5_findMatching_22 rfl ?_
  refine s_aload_n (x := l1) dX5_findMatching_23 rfl ?_
  refine s_iload_n (x := l2) dX5_findMatching_24 rfl ?_
  refine s_iload_n (x := l3) dX5_findMatching_25 rfl ?_
  refine s_iload (x := l6) dX5_findMatching_26 rfl ?_
  refine s_bipush dX5_findMatching_28 (by decide) ?_
  refine s_iremN dX5_findMatching_30 r1.1 r1.2 (by decide) (by decide) ?_
  refine s_iload (x := l6) dX5_findMatching_31 rfl ?_
  refine s_bipush dX5_findMatching_33 (by decide) ?_
  refine s_idivN dX5_findMatching_35 r1.1 r1.2 (by decide) (by decide) ?_
  exact s_callV (as := [zR l1, zI l2, zI l3, zI (l6 % 31), zI (l6 / 31)]) (st := []) (o := 92) dX5_findMatching_36 kX5_36 rfl ⟨5, 2, TX5, e92, rfl, by decide⟩ rfl rfl (Nat.le_of_ble_eq_true rfl) hS (show fr - 1 + 1 ≤ fr by omega) (Nat.zero_le _) (Nat.zero_le _) (fun v n' h' hP _ => by obtain ⟨x, e, rfl, hR⟩ := hP; cases e; exact kk x h' hR) (fun E n' h' _ z => (rI_nt _ _ _ z).elim)
theorem bX5_findMatching_39 {fr M1 M2 b1 b2 : Nat} {Q : RS → Nat → AH → Prop} {h : AH} {l1 l2 l3 l5 l6 s0 : Int} {x4 : AV}  (r1 : -2147483648 ≤ s0 ∧ s0 < 2147483648 := by omega) (kt : s0 = 0 → Wp mX5_findMatching (kR fr M1 M2) Q (b1, b2) 53 [zR 92, zR l1, zI l2, zI l3, none, zI l5, zI l6] [] 137 h) (kf : ¬ s0 = 0 → Wp mX5_findMatching (kR fr M1 M2) Q (b1, b2) 42 [zR 92, zR l1, zI l2, zI l3, none, zI l5, zI l6] [] 137 h) : Wp mX5_findMatching (kR fr M1 M2) Q (b1, b2) 39 [zR 92, zR l1, zI l2, zI l3, x4, zI l5, zI l6] [zI s0] 137 h := by
  refine s_fgt (fgt_c (fgt_c (fgt_c (fgt_c (fgt_n _ (fgt_c (fgt_c fgt_0))))))) ?_
  exact s_if_eq (tgt := 53) dX5_findMatching_39 (by decide) r1 kt kf
theorem bX5_findMatching_42 {fr M1 M2 b1 b2 : Nat} {Q : RS → Nat → AH → Prop} {h : AH} {l1 l2 l3 l5 l6 : Int} {x4 : AV}  (r1 : -2147483648 ≤ l5 ∧ l5 < 2147483648 := by omega) (kt : ¬ l5 = 0 → Wp mX5_findMatching (kR fr M1 M2) Q (b1, b2) 50 [zR 92, zR l1, zI l2, zI l3, none, zI l5, zI l6] [] 137 h) (kf : l5 = 0 → Wp mX5_findMatching (kR fr M1 M2) Q (b1, b2) 47 [zR 92, zR l1, zI l2, zI l3, none, zI l5, zI l6] [] 137 h) : Wp mX5_findMatching (kR fr M1 M2) Q (b1, b2) 42 [zR 92, zR l1, zI l2, zI l3, x4, zI l5, zI l6] [] 137 h := by
  refine s_fgt (fgt_c (fgt_c (fgt_c (fgt_c (fgt_n _ (fgt_c (fgt_c fgt_0))))))) ?_
  refine s_iload (x := l5) dX5_findMatching_42 rfl ?_
  exact s_if_ne (tgt := 50) dX5_findMatching_44 (by decide) r1 kt kf
theorem bX5_findMatching_47 {fr M1 M2 b1 b2 : Nat} {Q : RS → Nat → AH → Prop} {h : AH} {l6 : Int} {x0 x1 x2 x3 x4 x5 : AV}   (hq : Q (.inl (some (zI l6))) 137 h) : Wp mX5_findMatching (kR fr M1 M2) Q (b1, b2) 47 [x0, x1, x2, x3, x4, x5, zI l6] [] 137 h := by
  refine s_fgt (fgt_n _ (fgt_n _ (fgt_n _ (fgt_n _ (fgt_n _ (fgt_n _ (fgt_c fgt_0))))))) ?_
  refine s_iload (x := l6) dX5_findMatching_47 rfl ?_
  exact s_ireturn dX5_findMatching_49 ⟨.int, rfl, rfl⟩ hq (fun z => by cases z)
theorem bX5_findMatching_50 {fr M1 M2 b1 b2 : Nat} {Q : RS → Nat → AH → Prop} {h : AH} {l1 l2 l3 l5 l6 : Int} {x4 : AV}   (kk : Wp mX5_findMatching (kR fr M1 M2) Q (b1, b2) 53 [zR 92, zR l1, zI l2, zI l3, none, zI (l5 + (-1)), zI l6] [] 137 h) : Wp mX5_findMatching (kR fr M1 M2) Q (b1, b2) 50 [zR 92, zR l1, zI l2, zI l3, x4, zI l5, zI l6] [] 137 h := by
  refine s_fgt (fgt_c (fgt_c (fgt_c (fgt_c (fgt_n _ (fgt_c (fgt_c fgt_0))))))) ?_
  refine s_iinc (x := l5) dX5_findMatching_50 rfl rfl (by decide) ?_
  exact kk
theorem bX5_findMatching_53 {fr M1 M2 b1 b2 : Nat} {Q : RS → Nat → AH → Prop} {h : AH} {l1 l2 l3 l5 l6 : Int} {x4 : AV}   (kk : Wp mX5_findMatching (kR fr M1 M2) Q (b1, b2) 14 [zR 92, zR l1, zI l2, zI l3, none, zI l5, zI (l6 + 1)] [] 137 h) : Wp mX5_findMatching (kR fr M1 M2) Q (b1, b2) 53 [zR 92, zR l1, zI l2, zI l3, x4, zI l5, zI l6] [] 137 h := by
  refine s_fgt (fgt_c (fgt_c (fgt_c (fgt_c (fgt_n _ (fgt_c (fgt_c fgt_0))))))) ?_
  refine s_iinc (x := l6) dX5_findMatching_53 rfl rfl (by decide) ?_
  exact s_goto (tgt := 14) dX5_findMatching_56 (by decide) kk
theorem bX5_findMatching_59 {fr M1 M2 b1 b2 : Nat} {Q : RS → Nat → AH → Prop} {h : AH} {x0 x1 x2 x3 x4 x5 x6 : AV}   (hq : Q (.inl (some (zI (-1)))) 137 h) : Wp mX5_findMatching (kR fr M1 M2) Q (b1, b2) 59 [x0, x1, x2, x3, x4, x5, x6] [] 137 h := by
  refine s_fgt (fgt_n _ (fgt_n _ (fgt_n _ (fgt_n _ (fgt_n _ (fgt_n _ (fgt_n _ fgt_0))))))) ?_
  refine s_iconst dX5_findMatching_59 ?_
  exact s_ireturn dX5_findMatching_60 ⟨.int, rfl, rfl⟩ hq (fun z => by cases z)
theorem dX5_chart_0 : decode mX5_chart.cd 0 = .ok (.iconst 0, 1) := by decide +kernel
theorem dX5_chart_1 : decode mX5_chart.cd 1 = .ok (.istore 4, 2) := by decide +kernel
theorem dX5_chart_3 : decode mX5_chart.cd 3 = .ok (.iload 4, 2) := by decide +kernel
theorem dX5_chart_5 : decode mX5_chart.cd 5 = .ok (.bipush 31, 2) := by decide +kernel
theorem dX5_chart_7 : decode mX5_chart.cd 7 = .ok (.if_icmp .ge 75, 3) := by decide +kernel
theorem dX5_chart_10 : decode mX5_chart.cd 10 = .ok (.iconst 0, 1) := by decide +kernel
theorem dX5_chart_11 : decode mX5_chart.cd 11 = .ok (.istore 5, 2) := by decide +kernel
theorem dX5_chart_13 : decode mX5_chart.cd 13 = .ok (.iconst 0, 1) := by decide +kernel
theorem dX5_chart_14 : decode mX5_chart.cd 14 = .ok (.istore 6, 2) := by decide +kernel
theorem dX5_chart_16 : decode mX5_chart.cd 16 = .ok (.iload 6, 2) := by decide +kernel
theorem dX5_chart_18 : decode mX5_chart.cd 18 = .ok (.bipush 31, 2) := by decide +kernel
theorem dX5_chart_20 : decode mX5_chart.cd 20 = .ok (.if_icmp .ge 41, 3) := by decide +kernel
theorem dX5_chart_23 : decode mX5_chart.cd 23 = .ok (.aload_n 0, 1) := by decide +kernel
theorem dX5_chart_24 : decode mX5_chart.cd 24 = .ok (.getfield 15, 3) := by decide +kernel
theorem dX5_chart_27 : decode mX5_chart.cd 27 = .ok (.iload 4, 2) := by decide +kernel
theorem dX5_chart_29 : decode mX5_chart.cd 29 = .ok (.bipush 32, 2) := by decide +kernel
theorem dX5_chart_31 : decode mX5_chart.cd 31 = .ok (.imul, 1) := by decide +kernel
theorem dX5_chart_32 : decode mX5_chart.cd 32 = .ok (.iload 6, 2) := by decide +kernel
theorem dX5_chart_34 : decode mX5_chart.cd 34 = .ok (.iadd, 1) := by decide +kernel
theorem dX5_chart_35 : decode mX5_chart.cd 35 = .ok (.iload 5, 2) := by decide +kernel
theorem dX5_chart_37 : decode mX5_chart.cd 37 = .ok (.iastore, 1) := by decide +kernel
theorem dX5_chart_38 : decode mX5_chart.cd 38 = .ok (.aload_n 0, 1) := by decide +kernel
theorem dX5_chart_39 : decode mX5_chart.cd 39 = .ok (.aload_n 1, 1) := by decide +kernel
theorem dX5_chart_40 : decode mX5_chart.cd 40 = .ok (.iload_n 2, 1) := by decide +kernel
theorem dX5_chart_41 : decode mX5_chart.cd 41 = .ok (.iload_n 3, 1) := by decide +kernel
theorem dX5_chart_42 : decode mX5_chart.cd 42 = .ok (.iload 6, 2) := by decide +kernel
theorem dX5_chart_44 : decode mX5_chart.cd 44 = .ok (.iload 4, 2) := by decide +kernel
theorem dX5_chart_46 : decode mX5_chart.cd 46 = .ok (.invokevirtual 36, 3) := by decide +kernel
theorem dX5_chart_49 : decode mX5_chart.cd 49 = .ok (.ifCond .eq 6, 3) := by decide +kernel
theorem dX5_chart_52 : decode mX5_chart.cd 52 = .ok (.iinc 5 1, 3) := by decide +kernel
theorem dX5_chart_55 : decode mX5_chart.cd 55 = .ok (.iinc 6 1, 3) := by decide +kernel
theorem dX5_chart_58 : decode mX5_chart.cd 58 = .ok (.goto (-42), 3) := by decide +kernel
theorem dX5_chart_61 : decode mX5_chart.cd 61 = .ok (.aload_n 0, 1) := by decide +kernel
theorem dX5_chart_62 : decode mX5_chart.cd 62 = .ok (.getfield 15, 3) := by decide +kernel
theorem dX5_chart_65 : decode mX5_chart.cd 65 = .ok (.iload 4, 2) := by decide +kernel
theorem dX5_chart_67 : decode mX5_chart.cd 67 = .ok (.bipush 32, 2) := by decide +kernel
theorem dX5_chart_69 : decode mX5_chart.cd 69 = .ok (.imul, 1) := by decide +kernel
theorem dX5_chart_70 : decode mX5_chart.cd 70 = .ok (.bipush 31, 2) := by decide +kernel
theorem dX5_chart_72 : decode mX5_chart.cd 72 = .ok (.iadd, 1) := by decide +kernel
theorem dX5_chart_73 : decode mX5_chart.cd 73 = .ok (.iload 5, 2) := by decide +kernel
theorem dX5_chart_75 : decode mX5_chart.cd 75 = .ok (.iastore, 1) := by decide +kernel
theorem dX5_chart_76 : decode mX5_chart.cd 76 = .ok (.iinc 4 1, 3) := by decide +kernel
theorem dX5_chart_79 : decode mX5_chart.cd 79 = .ok (.goto (-76), 3) := by decide +kernel
theorem dX5_chart_82 : decode mX5_chart.cd 82 = .ok (.return_, 1) := by decide +kernel
theorem bX5_chart_0 {fr M1 M2 b1 b2 : Nat} {Q : RS → Nat → AH → Prop} {h : AH} {l1 l2 l3 : Int} {x4 x5 x6 : AV}   (kk : Wp mX5_chart (kR fr M1 M2) Q (b1, b2) 3 [zR 92, zR l1, zI l2, zI l3, zI 0, none, none] [] 137 h) : Wp mX5_chart (kR fr M1 M2) Q (b1, b2) 0 [zR 92, zR l1, zI l2, zI l3, x4, x5, x6] [] 137 h := by
  refine s_fgt (fgt_c (fgt_c (fgt_c (fgt_c (fgt_n _ (fgt_n _ (fgt_n _ fgt_0))))))) ?_
  refine s_iconst dX5_chart_0 ?_
  refine s_istore dX5_chart_1 rfl (by decide) ?_
  exact kk
theorem bX5_chart_3 {fr M1 M2 b1 b2 : Nat} {Q : RS → Nat → AH → Prop} {h : AH} {l1 l2 l3 l4 : Int} {x5 x6 : AV}  (r1 : -2147483648 ≤ l4 ∧ l4 < 2147483648 := by omega) (kt : 31 ≤ l4 → Wp mX5_chart (kR fr M1 M2) Q (b1, b2) 82 [zR 92, zR l1, zI l2, zI l3, zI l4, none, none] [] 137 h) (kf : l4 < 31 → Wp mX5_chart (kR fr M1 M2) Q (b1, b2) 10 [zR 92, zR l1, zI l2, zI l3, zI l4, none, none] [] 137 h) : Wp mX5_chart (kR fr M1 M2) Q (b1, b2) 3 [zR 92, zR l1, zI l2, zI l3, zI l4, x5, x6] [] 137 h := by
  refine s_fgt (fgt_c (fgt_c (fgt_c (fgt_c (fgt_c (fgt_n _ (fgt_n _ fgt_0))))))) ?_
  refine s_iload (x := l4) dX5_chart_3 rfl ?_
  refine s_bipush dX5_chart_5 (by decide) ?_
  exact s_icmp_ge (tgt := 82) dX5_chart_7 (by decide) r1 ⟨by decide, by decide⟩ kt kf
theorem bX5_chart_10 {fr M1 M2 b1 b2 : Nat} {Q : RS → Nat → AH → Prop} {h : AH} {l1 l2 l3 l4 : Int} {x5 x6 : AV}   (kk : Wp mX5_chart (kR fr M1 M2) Q (b1, b2) 16 [zR 92, zR l1, zI l2, zI l3, zI l4, zI 0, zI 0] [] 137 h) : Wp mX5_chart (kR fr M1 M2) Q (b1, b2) 10 [zR 92, zR l1, zI l2, zI l3, zI l4, x5, x6] [] 137 h := by
  refine s_fgt (fgt_c (fgt_c (fgt_c (fgt_c (fgt_c (fgt_n _ (fgt_n _ fgt_0))))))) ?_
  refine s_iconst dX5_chart_10 ?_
  refine s_istore dX5_chart_11 rfl (by decide) ?_
  refine s_iconst dX5_chart_13 ?_
  refine s_istore dX5_chart_14 rfl (by decide) ?_
  exact kk
theorem bX5_chart_16 {fr M1 M2 b1 b2 : Nat} {Q : RS → Nat → AH → Prop} {h : AH} {l1 l2 l3 l4 l5 l6 : Int}  (r1 : -2147483648 ≤ l6 ∧ l6 < 2147483648 := by omega) (kt : 31 ≤ l6 → Wp mX5_chart (kR fr M1 M2) Q (b1, b2) 61 [zR 92, zR l1, zI l2, zI l3, zI l4, zI l5, zI l6] [] 137 h) (kf : l6 < 31 → Wp mX5_chart (kR fr M1 M2) Q (b1, b2) 23 [zR 92, zR l1, zI l2, zI l3, zI l4, zI l5, zI l6] [] 137 h) : Wp mX5_chart (kR fr M1 M2) Q (b1, b2) 16 [zR 92, zR l1, zI l2, zI l3, zI l4, zI l5, zI l6] [] 137 h := by
  refine s_iload (x := l6) dX5_chart_16 rfl ?_
  refine s_bipush dX5_chart_18 (by decide) ?_
  exact s_icmp_ge (tgt := 61) dX5_chart_20 (by decide) r1 ⟨by decide, by decide⟩ kt kf
theorem bX5_chart_23 {fr M1 M2 b1 b2 : Nat} {Q : RS → Nat → AH → Prop} {h : AH} {l1 l2 l3 l4 l5 l6 : Int} {R : Int → AH → Prop}  (r1 : 0 ≤ (l4 * 32) + l6 ∧ (l4 * 32) + l6 < 992 := by omega) (hS : Sp mX5_matches true (fr - 1) 0 0 [zR 92, zR l1, zI l2, zI l3, zI l6, zI l4] 137 (up h 94 ((l4 * 32) + l6) l5) (rI R)) (hf : 1 ≤ fr := by omega) (kk : ∀ (x : Int) (h' : AH), R x h' → Wp mX5_chart (kR fr M1 M2) Q (b1, b2) 49 [zR 92, zR l1, zI l2, zI l3, zI l4, zI l5, zI l6] [zI x] 137 h') : Wp mX5_chart (kR fr M1 M2) Q (b1, b2) 23 [zR 92, zR l1, zI l2, zI l3, zI l4, zI l5, zI l6] [] 137 h := by
  refine s_aload_n (x := 92) dX5_chart_23 rfl ?_
  refine s_getFd (c := 92) (d := 94) dX5_chart_24 lX5_15 e92 (Or.inl rfl) (by decide) (by decide) ?_
  refine s_iload (x := l4) dX5_chart_27 rfl ?_
  refine s_bipush dX5_chart_29 (by decide) ?_
  refine s_imul dX5_chart_31 ?_
  refine s_iload (x := l6) dX5_chart_32 rfl ?_
  refine s_iadd dX5_chart_34 ?_
  refine s_iload (x := l5) dX5_chart_35 rfl ?_
  refine s_iast (c := 94) (i := (l4 * 32) + l6) dX5_chart_37 e94 r1.1 r1.2 ?_
  refine s_aload_n (x := 92) dX5_chart_38 rfl ?_
  refine s_aload_n (x := l1) dX5_chart_39 rfl ?_
  refine s_iload_n (x := l2) dX5_chart_40 rfl ?_
  refine s_iload_n (x := l3) dX5_chart_41 rfl ?_
  refine s_iload (x := l6) dX5_chart_42 rfl ?_
  refine s_iload (x := l4) dX5_chart_44 rfl ?_
  exact s_callV (as := [zR l1, zI l2, zI l3, zI l6, zI l4]) (st := []) (o := 92) dX5_chart_46 kX5_36 rfl ⟨5, 2, TX5, e92, rfl, by decide⟩ rfl rfl (Nat.le_of_ble_eq_true rfl) hS (show fr - 1 + 1 ≤ fr by omega) (Nat.zero_le _) (Nat.zero_le _) (fun v n' h' hP _ => by obtain ⟨x, e, rfl, hR⟩ := hP; cases e; exact kk x h' hR) (fun E n' h' _ z => (rI_nt _ _ _ z).elim)
theorem bX5_chart_49 {fr M1 M2 b1 b2 : Nat} {Q : RS → Nat → AH → Prop} {h : AH} {l1 l2 l3 l4 l5 l6 s0 : Int}  (r1 : -2147483648 ≤ s0 ∧ s0 < 2147483648 := by omega) (kt : s0 = 0 → Wp mX5_chart (kR fr M1 M2) Q (b1, b2) 55 [zR 92, zR l1, zI l2, zI l3, zI l4, zI l5, zI l6] [] 137 h) (kf : ¬ s0 = 0 → Wp mX5_chart (kR fr M1 M2) Q (b1, b2) 52 [zR 92, zR l1, zI l2, zI l3, zI l4, zI l5, zI l6] [] 137 h) : Wp mX5_chart (kR fr M1 M2) Q (b1, b2) 49 [zR 92, zR l1, zI l2, zI l3, zI l4, zI l5, zI l6] [zI s0] 137 h := by
  exact s_if_eq (tgt := 55) dX5_chart_49 (by decide) r1 kt kf
theorem bX5_chart_52 {fr M1 M2 b1 b2 : Nat} {Q : RS → Nat → AH → Prop} {h : AH} {l1 l2 l3 l4 l5 l6 : Int}   (kk : Wp mX5_chart (kR fr M1 M2) Q (b1, b2) 55 [zR 92, zR l1, zI l2, zI l3, zI l4, zI (l5 + 1), zI l6] [] 137 h) : Wp mX5_chart (kR fr M1 M2) Q (b1, b2) 52 [zR 92, zR l1, zI l2, zI l3, zI l4, zI l5, zI l6] [] 137 h := by
  refine s_iinc (x := l5) dX5_chart_52 rfl rfl (by decide) ?_
  exact kk
theorem bX5_chart_55 {fr M1 M2 b1 b2 : Nat} {Q : RS → Nat → AH → Prop} {h : AH} {l1 l2 l3 l4 l5 l6 : Int}   (kk : Wp mX5_chart (kR fr M1 M2) Q (b1, b2) 16 [zR 92, zR l1, zI l2, zI l3, zI l4, zI l5, zI (l6 + 1)] [] 137 h) : Wp mX5_chart (kR fr M1 M2) Q (b1, b2) 55 [zR 92, zR l1, zI l2, zI l3, zI l4, zI l5, zI l6] [] 137 h := by
  refine s_iinc (x := l6) dX5_chart_55 rfl rfl (by decide) ?_
  exact s_goto (tgt := 16) dX5_chart_58 (by decide) kk
theorem bX5_chart_61 {fr M1 M2 b1 b2 : Nat} {Q : RS → Nat → AH → Prop} {h : AH} {l1 l2 l3 l4 l5 : Int} {x6 : AV}  (r1 : 0 ≤ (l4 * 32) + 31 ∧ (l4 * 32) + 31 < 992 := by omega) (kk : Wp mX5_chart (kR fr M1 M2) Q (b1, b2) 3 [zR 92, zR l1, zI l2, zI l3, zI (l4 + 1), zI l5, none] [] 137 (up h 94 ((l4 * 32) + 31) l5)) : Wp mX5_chart (kR fr M1 M2) Q (b1, b2) 61 [zR 92, zR l1, zI l2, zI l3, zI l4, zI l5, x6] [] 137 h := by
  refine s_fgt (fgt_c (fgt_c (fgt_c (fgt_c (fgt_c (fgt_c (fgt_n _ fgt_0))))))) ?_
  refine s_aload_n (x := 92) dX5_chart_61 rfl ?_
  refine s_getFd (c := 92) (d := 94) dX5_chart_62 lX5_15 e92 (Or.inl rfl) (by decide) (by decide) ?_
  refine s_iload (x := l4) dX5_chart_65 rfl ?_
  refine s_bipush dX5_chart_67 (by decide) ?_
  refine s_imul dX5_chart_69 ?_
  refine s_bipush dX5_chart_70 (by decide) ?_
  refine s_iadd dX5_chart_72 ?_
  refine s_iload (x := l5) dX5_chart_73 rfl ?_
  refine s_iast (c := 94) (i := (l4 * 32) + 31) dX5_chart_75 e94 r1.1 r1.2 ?_
  refine s_iinc (x := l4) dX5_chart_76 rfl rfl (by decide) ?_
  exact s_goto (tgt := 3) dX5_chart_79 (by decide) kk
theorem bX5_chart_82 {fr M1 M2 b1 b2 : Nat} {Q : RS → Nat → AH → Prop} {h : AH} {x0 x1 x2 x3 x4 x5 x6 : AV}   (hq : Q (.inl none) 137 h) : Wp mX5_chart (kR fr M1 M2) Q (b1, b2) 82 [x0, x1, x2, x3, x4, x5, x6] [] 137 h := by
  refine s_fgt (fgt_n _ (fgt_n _ (fgt_n _ (fgt_n _ (fgt_n _ (fgt_n _ (fgt_n _ fgt_0))))))) ?_
  exact s_return dX5_chart_82 rfl hq (fun z => by cases z)
theorem dX5_countCouples_0 : decode mX5_countCouples.cd 0 = .ok (.iconst 0, 1) := by decide +kernel
theorem dX5_countCouples_1 : decode mX5_countCouples.cd 1 = .ok (.istore 5, 2) := by decide +kernel
theorem dX5_countCouples_3 : decode mX5_countCouples.cd 3 = .ok (.iconst 0, 1) := by decide +kernel
theorem dX5_countCouples_4 : decode mX5_countCouples.cd 4 = .ok (.istore 6, 2) := by decide +kernel
theorem dX5_countCouples_6 : decode mX5_countCouples.cd 6 = .ok (.iload 6, 2) := by decide +kernel
theorem dX5_countCouples_8 : decode mX5_countCouples.cd 8 = .ok (.bipush 31, 2) := by decide +kernel
theorem dX5_countCouples_10 : decode mX5_countCouples.cd 10 = .ok (.if_icmp .ge 54, 3) := by decide +kernel
theorem dX5_countCouples_13 : decode mX5_countCouples.cd 13 = .ok (.iconst 0, 1) := by decide +kernel
theorem dX5_countCouples_14 : decode mX5_countCouples.cd 14 = .ok (.istore 7, 2) := by decide +kernel
theorem dX5_countCouples_16 : decode mX5_countCouples.cd 16 = .ok (.iload 7, 2) := by decide +kernel
theorem dX5_countCouples_18 : decode mX5_countCouples.cd 18 = .ok (.bipush 31, 2) := by decide +kernel
theorem dX5_countCouples_20 : decode mX5_countCouples.cd 20 = .ok (.if_icmp .ge 38, 3) := by decide +kernel
theorem dX5_countCouples_23 : decode mX5_countCouples.cd 23 = .ok (.aload_n 0, 1) := by decide +kernel
theorem dX5_countCouples_24 : decode mX5_countCouples.cd 24 = .ok (.aload_n 1, 1) := by decide +kernel
theorem dX5_countCouples_25 : decode mX5_countCouples.cd 25 = .ok (.iload_n 2, 1) := by decide +kernel
theorem dX5_countCouples_26 : decode mX5_countCouples.cd 26 = .ok (.iload_n 3, 1) := by decide +kernel
theorem dX5_countCouples_27 : decode mX5_countCouples.cd 27 = .ok (.iload 7, 2) := by decide +kernel
theorem dX5_countCouples_29 : decode mX5_countCouples.cd 29 = .ok (.iload 6, 2) := by decide +kernel
theorem dX5_countCouples_31 : decode mX5_countCouples.cd 31 = .ok (.invokevirtual 36, 3) := by decide +kernel
theorem dX5_countCouples_34 : decode mX5_countCouples.cd 34 = .ok (.ifCond .eq 18, 3) := by decide +kernel
theorem dX5_countCouples_37 : decode mX5_countCouples.cd 37 = .ok (.iload 5, 2) := by decide +kernel
theorem dX5_countCouples_39 : decode mX5_countCouples.cd 39 = .ok (.aload_n 0, 1) := by decide +kernel
theorem dX5_countCouples_40 : decode mX5_countCouples.cd 40 = .ok (.iload 7, 2) := by decide +kernel
theorem dX5_countCouples_42 : decode mX5_countCouples.cd 42 = .ok (.iload 6, 2) := by decide +kernel
theorem dX5_countCouples_44 : decode mX5_countCouples.cd 44 = .ok (.iload 4, 2) := by decide +kernel
theorem dX5_countCouples_46 : decode mX5_countCouples.cd 46 = .ok (.invokevirtual 40, 3) := by decide +kernel
theorem dX5_countCouples_49 : decode mX5_countCouples.cd 49 = .ok (.iadd, 1) := by decide +kernel
theorem dX5_countCouples_50 : decode mX5_countCouples.cd 50 = .ok (.istore 5, 2) := by decide +kernel
theorem dX5_countCouples_52 : decode mX5_countCouples.cd 52 = .ok (.iinc 7 1, 3) := by decide +kernel
theorem dX5_countCouples_55 : decode mX5_countCouples.cd 55 = .ok (.goto (-39), 3) := by decide +kernel
theorem dX5_countCouples_58 : decode mX5_countCouples.cd 58 = .ok (.iinc 6 1, 3) := by decide +kernel
theorem dX5_countCouples_61 : decode mX5_countCouples.cd 61 = .ok (.goto (-55), 3) := by decide +kernel
theorem dX5_countCouples_64 : decode mX5_countCouples.cd 64 = .ok (.iload 5, 2) := by decide +kernel
theorem dX5_countCouples_66 : decode mX5_countCouples.cd 66 = .ok (.ireturn, 1) := by decide +kernel
theorem bX5_countCouples_0 {fr M1 M2 b1 b2 : Nat} {Q : RS → Nat → AH → Prop} {h : AH} {l1 l2 l3 l4 : Int} {x5 x6 x7 : AV}   (kk : Wp mX5_countCouples (kR fr M1 M2) Q (b1, b2) 6 [zR 92, zR l1, zI l2, zI l3, zI l4, zI 0, zI 0, none] [] 137 h) : Wp mX5_countCouples (kR fr M1 M2) Q (b1, b2) 0 [zR 92, zR l1, zI l2, zI l3, zI l4, x5, x6, x7] [] 137 h := by
  refine s_fgt (fgt_c (fgt_c (fgt_c (fgt_c (fgt_c (fgt_n _ (fgt_n _ (fgt_n _ fgt_0)))))))) ?_
  refine s_iconst dX5_countCouples_0 ?_
  refine s_istore dX5_countCouples_1 rfl (by decide) ?_
  refine s_iconst dX5_countCouples_3 ?_
  refine s_istore dX5_countCouples_4 rfl (by decide) ?_
  exact kk
theorem bX5_countCouples_6 {fr M1 M2 b1 b2 : Nat} {Q : RS → Nat → AH → Prop} {h : AH} {l1 l2 l3 l4 l5 l6 : Int} {x7 : AV}  (r1 : -2147483648 ≤ l6 ∧ l6 < 2147483648 := by omega) (kt : 31 ≤ l6 → Wp mX5_countCouples (kR fr M1 M2) Q (b1, b2) 64 [zR 92, zR l1, zI l2, zI l3, zI l4, zI l5, zI l6, none] [] 137 h) (kf : l6 < 31 → Wp mX5_countCouples (kR fr M1 M2) Q (b1, b2) 13 [zR 92, zR l1, zI l2, zI l3, zI l4, zI l5, zI l6, none] [] 137 h) : Wp mX5_countCouples (kR fr M1 M2) Q (b1, b2) 6 [zR 92, zR l1, zI l2, zI l3, zI l4, zI l5, zI l6, x7] [] 137 h := by
  refine s_fgt (fgt_c (fgt_c (fgt_c (fgt_c (fgt_c (fgt_c (fgt_c (fgt_n _ fgt_0)))))))) ?_
  refine s_iload (x := l6) dX5_countCouples_6 rfl ?_
  refine s_bipush dX5_countCouples_8 (by decide) ?_
  exact s_icmp_ge (tgt := 64) dX5_countCouples_10 (by decide) r1 ⟨by decide, by decide⟩ kt kf
theorem bX5_countCouples_13 {fr M1 M2 b1 b2 : Nat} {Q : RS → Nat → AH → Prop} {h : AH} {l1 l2 l3 l4 l5 l6 : Int} {x7 : AV}   (kk : Wp mX5_countCouples (kR fr M1 M2) Q (b1, b2) 16 [zR 92, zR l1, zI l2, zI l3, zI l4, zI l5, zI l6, zI 0] [] 137 h) : Wp mX5_countCouples (kR fr M1 M2) Q (b1, b2) 13 [zR 92, zR l1, zI l2, zI l3, zI l4, zI l5, zI l6, x7] [] 137 h := by
  refine s_fgt (fgt_c (fgt_c (fgt_c (fgt_c (fgt_c (fgt_c (fgt_c (fgt_n _ fgt_0)))))))) ?_
  refine s_iconst dX5_countCouples_13 ?_
  refine s_istore dX5_countCouples_14 rfl (by decide) ?_
  exact kk
theorem bX5_countCouples_16 {fr M1 M2 b1 b2 : Nat} {Q : RS → Nat → AH → Prop} {h : AH} {l1 l2 l3 l4 l5 l6 l7 : Int}  (r1 : -2147483648 ≤ l7 ∧ l7 < 2147483648 := by omega) (kt : 31 ≤ l7 → Wp mX5_countCouples (kR fr M1 M2) Q (b1, b2) 58 [zR 92, zR l1, zI l2, zI l3, zI l4, zI l5, zI l6, zI l7] [] 137 h) (kf : l7 < 31 → Wp mX5_countCouples (kR fr M1 M2) Q (b1, b2) 23 [zR 92, zR l1, zI l2, zI l3, zI l4, zI l5, zI l6, zI l7] [] 137 h) : Wp mX5_countCouples (kR fr M1 M2) Q (b1, b2) 16 [zR 92, zR l1, zI l2, zI l3, zI l4, zI l5, zI l6, zI l7] [] 137 h := by
  refine s_iload (x := l7) dX5_countCouples_16 rfl ?_
  refine s_bipush dX5_countCouples_18 (by decide) ?_
  exact s_icmp_ge (tgt := 58) dX5_countCouples_20 (by decide) r1 ⟨by decide, by decide⟩ kt kf
theorem bX5_countCouples_23 {fr M1 M2 b1 b2 : Nat} {Q : RS → Nat → AH → Prop} {h : AH} {l1 l2 l3 l4 l5 l6 l7 : Int} {R : Int → AH → Prop}   (hS : Sp mX5_matches true (fr - 1) 0 0 [zR 92, zR l1, zI l2, zI l3, zI l7, zI l6] 137 h (rI R)) (hf : 1 ≤ fr := by omega) (kk : ∀ (x : Int) (h' : AH), R x h' → Wp mX5_countCouples (kR fr M1 M2) Q (b1, b2) 34 [zR 92, zR l1, zI l2, zI l3, zI l4, zI l5, zI l6, zI l7] [zI x] 137 h') : Wp mX5_countCouples (kR fr M1 M2) Q (b1, b2) 23 [zR 92, zR l1, zI l2, zI l3, zI l4, zI l5, zI l6, zI l7] [] 137 h := by
  refine s_aload_n (x := 92) dX5_countCouples_23 rfl ?_
  refine s_aload_n (x := l1) dX5_countCouples_24 rfl ?_
  refine s_iload_n (x := l2) dX5_countCouples_25 rfl ?_
  refine s_iload_n (x := l3) dX5_countCouples_26 rfl ?_
  refine s_iload (x := l7) dX5_countCouples_27 rfl ?_
  refine s_iload (x := l6) dX5_countCouples_29 rfl ?_
  exact s_callV (as := [zR l1, zI l2, zI l3, zI l7, zI l6]) (st := []) (o := 92) dX5_countCouples_31 kX5_36 rfl ⟨5, 2, TX5, e92, rfl, by decide⟩ rfl rfl (Nat.le_of_ble_eq_true rfl) hS (show fr - 1 + 1 ≤ fr by omega) (Nat.zero_le _) (Nat.zero_le _) (fun v n' h' hP _ => by obtain ⟨x, e, rfl, hR⟩ := hP; cases e; exact kk x h' hR) (fun E n' h' _ z => (rI_nt _ _ _ z).elim)
theorem bX5_countCouples_34 {fr M1 M2 b1 b2 : Nat} {Q : RS → Nat → AH → Prop} {h : AH} {l1 l2 l3 l4 l5 l6 l7 s0 : Int}  (r1 : -2147483648 ≤ s0 ∧ s0 < 2147483648 := by omega) (kt : s0 = 0 → Wp mX5_countCouples (kR fr M1 M2) Q (b1, b2) 52 [zR 92, zR l1, zI l2, zI l3, zI l4, zI l5, zI l6, zI l7] [] 137 h) (kf : ¬ s0 = 0 → Wp mX5_countCouples (kR fr M1 M2) Q (b1, b2) 37 [zR 92, zR l1, zI l2, zI l3, zI l4, zI l5, zI l6, zI l7] [] 137 h) : Wp mX5_countCouples (kR fr M1 M2) Q (b1, b2) 34 [zR 92, zR l1, zI l2, zI l3, zI l4, zI l5, zI l6, zI l7] [zI s0] 137 h := by
  exact s_if_eq (tgt := 52) dX5_countCouples_34 (by decide) r1 kt kf
theorem bX5_countCouples_37 {fr M1 M2 b1 b2 : Nat} {Q : RS → Nat → AH → Prop} {h : AH} {l1 l2 l3 l4 l5 l6 l7 : Int} {R : Int → AH → Prop}   (hS : Sp mX5_chartedNear true (fr - 1) 0 0 [zR 92, zI l7, zI l6, zI l4] 137 h (rI R)) (hf : 1 ≤ fr := by omega) (kk : ∀ (x : Int) (h' : AH), R x h' → Wp mX5_countCouples (kR fr M1 M2) Q (b1, b2) 49 [zR 92, zR l1, zI l2, zI l3, zI l4, zI l5, zI l6, zI l7] [zI x, zI l5] 137 h') : Wp mX5_countCouples (kR fr M1 M2) Q (b1, b2) 37 [zR 92, zR l1, zI l2, zI l3, zI l4, zI l5, zI l6, zI l7] [] 137 h := by
  refine s_iload (x := l5) dX5_countCouples_37 rfl ?_
  refine s_aload_n (x := 92) dX5_countCouples_39 rfl ?_
  refine s_iload (x := l7) dX5_countCouples_40 rfl ?_
  refine s_iload (x := l6) dX5_countCouples_42 rfl ?_
  refine s_iload (x := l4) dX5_countCouples_44 rfl ?_
  exact s_callV (as := [zI l7, zI l6, zI l4]) (st := [zI l5]) (o := 92) dX5_countCouples_46 kX5_40 rfl ⟨5, 2, TX5, e92, rfl, by decide⟩ rfl rfl (Nat.le_of_ble_eq_true rfl) hS (show fr - 1 + 1 ≤ fr by omega) (Nat.zero_le _) (Nat.zero_le _) (fun v n' h' hP _ => by obtain ⟨x, e, rfl, hR⟩ := hP; cases e; exact kk x h' hR) (fun E n' h' _ z => (rI_nt _ _ _ z).elim)
theorem bX5_countCouples_49 {fr M1 M2 b1 b2 : Nat} {Q : RS → Nat → AH → Prop} {h : AH} {l1 l2 l3 l4 l6 l7 s1 s0 : Int} {x5 : AV}   (kk : Wp mX5_countCouples (kR fr M1 M2) Q (b1, b2) 52 [zR 92, zR l1, zI l2, zI l3, zI l4, zI (s1 + s0), zI l6, zI l7] [] 137 h) : Wp mX5_countCouples (kR fr M1 M2) Q (b1, b2) 49 [zR 92, zR l1, zI l2, zI l3, zI l4, x5, zI l6, zI l7] [zI s0, zI s1] 137 h := by
  refine s_fgt (fgt_c (fgt_c (fgt_c (fgt_c (fgt_c (fgt_n _ (fgt_c (fgt_c fgt_0)))))))) ?_
  refine s_iadd dX5_countCouples_49 ?_
  refine s_istore dX5_countCouples_50 rfl (by decide) ?_
  exact kk
theorem bX5_countCouples_52 {fr M1 M2 b1 b2 : Nat} {Q : RS → Nat → AH → Prop} {h : AH} {l1 l2 l3 l4 l5 l6 l7 : Int}   (kk : Wp mX5_countCouples (kR fr M1 M2) Q (b1, b2) 16 [zR 92, zR l1, zI l2, zI l3, zI l4, zI l5, zI l6, zI (l7 + 1)] [] 137 h) : Wp mX5_countCouples (kR fr M1 M2) Q (b1, b2) 52 [zR 92, zR l1, zI l2, zI l3, zI l4, zI l5, zI l6, zI l7] [] 137 h := by
  refine s_iinc (x := l7) dX5_countCouples_52 rfl rfl (by decide) ?_
  exact s_goto (tgt := 16) dX5_countCouples_55 (by decide) kk
theorem bX5_countCouples_58 {fr M1 M2 b1 b2 : Nat} {Q : RS → Nat → AH → Prop} {h : AH} {l1 l2 l3 l4 l5 l6 : Int} {x7 : AV}   (kk : Wp mX5_countCouples (kR fr M1 M2) Q (b1, b2) 6 [zR 92, zR l1, zI l2, zI l3, zI l4, zI l5, zI (l6 + 1), none] [] 137 h) : Wp mX5_countCouples (kR fr M1 M2) Q (b1, b2) 58 [zR 92, zR l1, zI l2, zI l3, zI l4, zI l5, zI l6, x7] [] 137 h := by
  refine s_fgt (fgt_c (fgt_c (fgt_c (fgt_c (fgt_c (fgt_c (fgt_c (fgt_n _ fgt_0)))))))) ?_
  refine s_iinc (x := l6) dX5_countCouples_58 rfl rfl (by decide) ?_
  exact s_goto (tgt := 6) dX5_countCouples_61 (by decide) kk
theorem bX5_countCouples_64 {fr M1 M2 b1 b2 : Nat} {Q : RS → Nat → AH → Prop} {h : AH} {l5 : Int} {x0 x1 x2 x3 x4 x6 x7 : AV}   (hq : Q (.inl (some (zI l5))) 137 h) : Wp mX5_countCouples (kR fr M1 M2) Q (b1, b2) 64 [x0, x1, x2, x3, x4, zI l5, x6, x7] [] 137 h := by
  refine s_fgt (fgt_n _ (fgt_n _ (fgt_n _ (fgt_n _ (fgt_n _ (fgt_c (fgt_n _ (fgt_n _ fgt_0)))))))) ?_
  refine s_iload (x := l5) dX5_countCouples_64 rfl ?_
  exact s_ireturn dX5_countCouples_66 ⟨.int, rfl, rfl⟩ hq (fun z => by cases z)
theorem dX5_chartedNear_0 : decode mX5_chartedNear.cd 0 = .ok (.iconst 0, 1) := by decide +kernel
theorem dX5_chartedNear_1 : decode mX5_chartedNear.cd 1 = .ok (.istore 4, 2) := by decide +kernel
theorem dX5_chartedNear_3 : decode mX5_chartedNear.cd 3 = .ok (.bipush 30, 2) := by decide +kernel
theorem dX5_chartedNear_5 : decode mX5_chartedNear.cd 5 = .ok (.iload_n 2, 1) := by decide +kernel
theorem dX5_chartedNear_6 : decode mX5_chartedNear.cd 6 = .ok (.iload_n 3, 1) := by decide +kernel
theorem dX5_chartedNear_7 : decode mX5_chartedNear.cd 7 = .ok (.iadd, 1) := by decide +kernel
theorem dX5_chartedNear_8 : decode mX5_chartedNear.cd 8 = .ok (.invokestatic 44, 3) := by decide +kernel
theorem dX5_chartedNear_11 : decode mX5_chartedNear.cd 11 = .ok (.istore 5, 2) := by decide +kernel
theorem dX5_chartedNear_13 : decode mX5_chartedNear.cd 13 = .ok (.iconst 0, 1) := by decide +kernel
theorem dX5_chartedNear_14 : decode mX5_chartedNear.cd 14 = .ok (.iload_n 2, 1) := by decide +kernel
theorem dX5_chartedNear_15 : decode mX5_chartedNear.cd 15 = .ok (.iload_n 3, 1) := by decide +kernel
theorem dX5_chartedNear_16 : decode mX5_chartedNear.cd 16 = .ok (.isub, 1) := by decide +kernel
theorem dX5_chartedNear_17 : decode mX5_chartedNear.cd 17 = .ok (.invokestatic 48, 3) := by decide +kernel
theorem dX5_chartedNear_20 : decode mX5_chartedNear.cd 20 = .ok (.istore 6, 2) := by decide +kernel
theorem dX5_chartedNear_22 : decode mX5_chartedNear.cd 22 = .ok (.iload 6, 2) := by decide +kernel
theorem dX5_chartedNear_24 : decode mX5_chartedNear.cd 24 = .ok (.iload 5, 2) := by decide +kernel
theorem dX5_chartedNear_26 : decode mX5_chartedNear.cd 26 = .ok (.if_icmp .gt 75, 3) := by decide +kernel
theorem dX5_chartedNear_29 : decode mX5_chartedNear.cd 29 = .ok (.iload_n 3, 1) := by decide +kernel
theorem dX5_chartedNear_30 : decode mX5_chartedNear.cd 30 = .ok (.iload_n 2, 1) := by decide +kernel
theorem dX5_chartedNear_31 : decode mX5_chartedNear.cd 31 = .ok (.iload 6, 2) := by decide +kernel
theorem dX5_chartedNear_33 : decode mX5_chartedNear.cd 33 = .ok (.isub, 1) := by decide +kernel
theorem dX5_chartedNear_34 : decode mX5_chartedNear.cd 34 = .ok (.invokestatic 23, 3) := by decide +kernel
theorem dX5_chartedNear_37 : decode mX5_chartedNear.cd 37 = .ok (.isub, 1) := by decide +kernel
theorem dX5_chartedNear_38 : decode mX5_chartedNear.cd 38 = .ok (.istore 7, 2) := by decide +kernel
theorem dX5_chartedNear_40 : decode mX5_chartedNear.cd 40 = .ok (.iconst 0, 1) := by decide +kernel
theorem dX5_chartedNear_41 : decode mX5_chartedNear.cd 41 = .ok (.iload_n 1, 1) := by decide +kernel
theorem dX5_chartedNear_42 : decode mX5_chartedNear.cd 42 = .ok (.iload 7, 2) := by decide +kernel
theorem dX5_chartedNear_44 : decode mX5_chartedNear.cd 44 = .ok (.isub, 1) := by decide +kernel
theorem dX5_chartedNear_45 : decode mX5_chartedNear.cd 45 = .ok (.invokestatic 48, 3) := by decide +kernel
theorem dX5_chartedNear_48 : decode mX5_chartedNear.cd 48 = .ok (.istore 8, 2) := by decide +kernel
theorem dX5_chartedNear_50 : decode mX5_chartedNear.cd 50 = .ok (.bipush 30, 2) := by decide +kernel
theorem dX5_chartedNear_52 : decode mX5_chartedNear.cd 52 = .ok (.iload_n 1, 1) := by decide +kernel
theorem dX5_chartedNear_53 : decode mX5_chartedNear.cd 53 = .ok (.iload 7, 2) := by decide +kernel
theorem dX5_chartedNear_55 : decode mX5_chartedNear.cd 55 = .ok (.iadd, 1) := by decide +kernel
theorem dX5_chartedNear_56 : decode mX5_chartedNear.cd 56 = .ok (.invokestatic 44, 3) := by decide +kernel
theorem dX5_chartedNear_59 : decode mX5_chartedNear.cd 59 = .ok (.istore 9, 2) := by decide +kernel
theorem dX5_chartedNear_61 : decode mX5_chartedNear.cd 61 = .ok (.iload 4, 2) := by decide +kernel
theorem dX5_chartedNear_63 : decode mX5_chartedNear.cd 63 = .ok (.aload_n 0, 1) := by decide +kernel
theorem dX5_chartedNear_64 : decode mX5_chartedNear.cd 64 = .ok (.getfield 15, 3) := by decide +kernel
theorem dX5_chartedNear_67 : decode mX5_chartedNear.cd 67 = .ok (.iload 6, 2) := by decide +kernel
theorem dX5_chartedNear_69 : decode mX5_chartedNear.cd 69 = .ok (.bipush 32, 2) := by decide +kernel
theorem dX5_chartedNear_71 : decode mX5_chartedNear.cd 71 = .ok (.imul, 1) := by decide +kernel
theorem dX5_chartedNear_72 : decode mX5_chartedNear.cd 72 = .ok (.iload 9, 2) := by decide +kernel
theorem dX5_chartedNear_74 : decode mX5_chartedNear.cd 74 = .ok (.iadd, 1) := by decide +kernel
theorem dX5_chartedNear_75 : decode mX5_chartedNear.cd 75 = .ok (.iconst 1, 1) := by decide +kernel
theorem dX5_chartedNear_76 : decode mX5_chartedNear.cd 76 = .ok (.iadd, 1) := by decide +kernel
theorem dX5_chartedNear_77 : decode mX5_chartedNear.cd 77 = .ok (.iaload, 1) := by decide +kernel
theorem dX5_chartedNear_78 : decode mX5_chartedNear.cd 78 = .ok (.aload_n 0, 1) := by decide +kernel
theorem dX5_chartedNear_79 : decode mX5_chartedNear.cd 79 = .ok (.getfield 15, 3) := by decide +kernel
theorem dX5_chartedNear_82 : decode mX5_chartedNear.cd 82 = .ok (.iload 6, 2) := by decide +kernel
theorem dX5_chartedNear_84 : decode mX5_chartedNear.cd 84 = .ok (.bipush 32, 2) := by decide +kernel
theorem dX5_chartedNear_86 : decode mX5_chartedNear.cd 86 = .ok (.imul, 1) := by decide +kernel
theorem dX5_chartedNear_87 : decode mX5_chartedNear.cd 87 = .ok (.iload 8, 2) := by decide +kernel
theorem dX5_chartedNear_89 : decode mX5_chartedNear.cd 89 = .ok (.iadd, 1) := by decide +kernel
theorem dX5_chartedNear_90 : decode mX5_chartedNear.cd 90 = .ok (.iaload, 1) := by decide +kernel
theorem dX5_chartedNear_91 : decode mX5_chartedNear.cd 91 = .ok (.isub, 1) := by decide +kernel
theorem dX5_chartedNear_92 : decode mX5_chartedNear.cd 92 = .ok (.iadd, 1) := by decide +kernel
theorem dX5_chartedNear_93 : decode mX5_chartedNear.cd 93 = .ok (.istore 4, 2) := by decide +kernel
theorem dX5_chartedNear_95 : decode mX5_chartedNear.cd 95 = .ok (.iinc 6 1, 3) := by decide +kernel
theorem dX5_chartedNear_98 : decode mX5_chartedNear.cd 98 = .ok (.goto (-76), 3) := by decide +kernel
theorem dX5_chartedNear_101 : decode mX5_chartedNear.cd 101 = .ok (.iload 4, 2) := by decide +kernel
theorem dX5_chartedNear_103 : decode mX5_chartedNear.cd 103 = .ok (.ireturn, 1) := by decide +kernel
theorem bX5_chartedNear_0 {fr M1 M2 b1 b2 : Nat} {Q : RS → Nat → AH → Prop} {h : AH} {l1 l2 l3 : Int} {x4 x5 x6 x7 x8 x9 : AV}  (r1 : 1 ≤ fr := by omega) (r2 : -2147483648 ≤ l2 + l3 ∧ l2 + l3 < 2147483648 := by omega) (r3 : -2147483648 ≤ l2 - l3 ∧ l2 - l3 < 2147483648 := by omega) (kk : Wp mX5_chartedNear (kR fr M1 M2) Q (b1, b2) 22 [zR 92, zI l1, zI l2, zI l3, zI 0, zI (min 30 (l2 + l3)), zI (max 0 (l2 - l3)), none, none, none] [] 137 h) : Wp mX5_chartedNear (kR fr M1 M2) Q (b1, b2) 0 [zR 92, zI l1, zI l2, zI l3, x4, x5, x6, x7, x8, x9] [] 137 h := by
  refine s_fgt (fgt_c (fgt_c (fgt_c (fgt_c (fgt_n _ (fgt_n _ (fgt_n _ (fgt_n _ (fgt_n _ (fgt_n _ fgt_0)))))))))) ?_
  refine s_iconst dX5_chartedNear_0 ?_
  refine s_istore dX5_chartedNear_1 rfl (by decide) ?_
  refine s_bipush dX5_chartedNear_3 (by decide) ?_
  refine s_iload_n (x := l2) dX5_chartedNear_5 rfl ?_
  refine s_iload_n (x := l3) dX5_chartedNear_6 rfl ?_
  refine s_iadd dX5_chartedNear_7 ?_
  refine s_mmin dX5_chartedNear_8 wd1273 wd704 wd19 wd705 r1 (Nat.le_of_ble_eq_true rfl) ⟨by decide, by decide⟩ r2 ?_
  refine s_istore dX5_chartedNear_11 rfl (by decide) ?_
  refine s_iconst dX5_chartedNear_13 ?_
  refine s_iload_n (x := l2) dX5_chartedNear_14 rfl ?_
  refine s_iload_n (x := l3) dX5_chartedNear_15 rfl ?_
  refine s_isub dX5_chartedNear_16 ?_
  refine s_mmax dX5_chartedNear_17 wd1274 wd953 wd19 wd954 r1 (Nat.le_of_ble_eq_true rfl) ⟨by decide, by decide⟩ r3 ?_
  refine s_istore dX5_chartedNear_20 rfl (by decide) ?_
  exact kk
theorem bX5_chartedNear_22 {fr M1 M2 b1 b2 : Nat} {Q : RS → Nat → AH → Prop} {h : AH} {l1 l2 l3 l4 l5 l6 : Int} {x7 x8 x9 : AV}  (r1 : -2147483648 ≤ l6 ∧ l6 < 2147483648 := by omega) (r2 : -2147483648 ≤ l5 ∧ l5 < 2147483648 := by omega) (kt : l5 < l6 → Wp mX5_chartedNear (kR fr M1 M2) Q (b1, b2) 101 [zR 92, zI l1, zI l2, zI l3, zI l4, zI l5, zI l6, none, none, none] [] 137 h) (kf : l6 ≤ l5 → Wp mX5_chartedNear (kR fr M1 M2) Q (b1, b2) 29 [zR 92, zI l1, zI l2, zI l3, zI l4, zI l5, zI l6, none, none, none] [] 137 h) : Wp mX5_chartedNear (kR fr M1 M2) Q (b1, b2) 22 [zR 92, zI l1, zI l2, zI l3, zI l4, zI l5, zI l6, x7, x8, x9] [] 137 h := by
  refine s_fgt (fgt_c (fgt_c (fgt_c (fgt_c (fgt_c (fgt_c (fgt_c (fgt_n _ (fgt_n _ (fgt_n _ fgt_0)))))))))) ?_
  refine s_iload (x := l6) dX5_chartedNear_22 rfl ?_
  refine s_iload (x := l5) dX5_chartedNear_24 rfl ?_
  exact s_icmp_gt (tgt := 101) dX5_chartedNear_26 (by decide) r1 r2 kt kf
theorem bX5_chartedNear_29 {fr M1 M2 b1 b2 : Nat} {Q : RS → Nat → AH → Prop} {h : AH} {l1 l2 l3 l4 l5 l6 : Int} {x7 x8 x9 : AV}  (r1 : 1 ≤ fr := by omega) (r2 : -2147483648 ≤ l2 - l6 ∧ l2 - l6 < 2147483648 := by omega) (r3 : -2147483648 ≤ l1 - (l3 - (if 0 ≤ l2 - l6 then l2 - l6 else 0 - (l2 - l6))) ∧ l1 - (l3 - (if 0 ≤ l2 - l6 then l2 - l6 else 0 - (l2 - l6))) < 2147483648 := by omega) (r4 : -2147483648 ≤ l1 + (l3 - (if 0 ≤ l2 - l6 then l2 - l6 else 0 - (l2 - l6))) ∧ l1 + (l3 - (if 0 ≤ l2 - l6 then l2 - l6 else 0 - (l2 - l6))) < 2147483648 := by omega) (r5 : 0 ≤ ((l6 * 32) + (min 30 (l1 + (l3 - (if 0 ≤ l2 - l6 then l2 - l6 else 0 - (l2 - l6)))))) + 1 ∧ ((l6 * 32) + (min 30 (l1 + (l3 - (if 0 ≤ l2 - l6 then l2 - l6 else 0 - (l2 - l6)))))) + 1 < 992 := by omega) (r6 : 0 ≤ (l6 * 32) + (max 0 (l1 - (l3 - (if 0 ≤ l2 - l6 then l2 - l6 else 0 - (l2 - l6))))) ∧ (l6 * 32) + (max 0 (l1 - (l3 - (if 0 ≤ l2 - l6 then l2 - l6 else 0 - (l2 - l6))))) < 992 := by omega) (kk : Wp mX5_chartedNear (kR fr M1 M2) Q (b1, b2) 22 [zR 92, zI l1, zI l2, zI l3, zI (l4 + ((h 94 (((l6 * 32) + (min 30 (l1 + (l3 - (if 0 ≤ l2 - l6 then l2 - l6 else 0 - (l2 - l6)))))) + 1)) - (h 94 ((l6 * 32) + (max 0 (l1 - (l3 - (if 0 ≤ l2 - l6 then l2 - l6 else 0 - (l2 - l6))))))))), zI l5, zI (l6 + 1), zI (l3 - (if 0 ≤ l2 - l6 then l2 - l6 else 0 - (l2 - l6))), zI (max 0 (l1 - (l3 - (if 0 ≤ l2 - l6 then l2 - l6 else 0 - (l2 - l6))))), zI (min 30 (l1 + (l3 - (if 0 ≤ l2 - l6 then l2 - l6 else 0 - (l2 - l6)))))] [] 137 h) : Wp mX5_chartedNear (kR fr M1 M2) Q (b1, b2) 29 [zR 92, zI l1, zI l2, zI l3, zI l4, zI l5, zI l6, x7, x8, x9] [] 137 h := by
  refine s_fgt (fgt_c (fgt_c (fgt_c (fgt_c (fgt_c (fgt_c (fgt_c (fgt_n _ (fgt_n _ (fgt_n _ fgt_0)))))))))) ?_
  refine s_iload_n (x := l3) dX5_chartedNear_29 rfl ?_
  refine s_iload_n (x := l2) dX5_chartedNear_30 rfl ?_
  refine s_iload (x := l6) dX5_chartedNear_31 rfl ?_
  refine s_isub dX5_chartedNear_33 ?_
  refine s_mabs dX5_chartedNear_34 wd1247 wd1248 wd19 wd1249 r1 (Nat.le_of_ble_eq_true rfl) r2 ?_
  refine s_isub dX5_chartedNear_37 ?_
  refine s_istore dX5_chartedNear_38 rfl (by decide) ?_
  refine s_iconst dX5_chartedNear_40 ?_
  refine s_iload_n (x := l1) dX5_chartedNear_41 rfl ?_
  refine s_iload (x := l3 - (if 0 ≤ l2 - l6 then l2 - l6 else 0 - (l2 - l6))) dX5_chartedNear_42 rfl ?_
  refine s_isub dX5_chartedNear_44 ?_
  refine s_mmax dX5_chartedNear_45 wd1274 wd953 wd19 wd954 r1 (Nat.le_of_ble_eq_true rfl) ⟨by decide, by decide⟩ r3 ?_
  refine s_istore dX5_chartedNear_48 rfl (by decide) ?_
  refine s_bipush dX5_chartedNear_50 (by decide) ?_
  refine s_iload_n (x := l1) dX5_chartedNear_52 rfl ?_
  refine s_iload (x := l3 - (if 0 ≤ l2 - l6 then l2 - l6 else 0 - (l2 - l6))) dX5_chartedNear_53 rfl ?_
  refine s_iadd dX5_chartedNear_55 ?_
  refine s_mmin dX5_chartedNear_56 wd1273 wd704 wd19 wd705 r1 (Nat.le_of_ble_eq_true rfl) ⟨by decide, by decide⟩ r4 ?_
  refine s_istore dX5_chartedNear_59 rfl (by decide) ?_
  refine s_iload (x := l4) dX5_chartedNear_61 rfl ?_
  refine s_aload_n (x := 92) dX5_chartedNear_63 rfl ?_
  refine s_getFd (c := 92) (d := 94) dX5_chartedNear_64 lX5_15 e92 (Or.inl rfl) (by decide) (by decide) ?_
  refine s_iload (x := l6) dX5_chartedNear_67 rfl ?_
  refine s_bipush dX5_chartedNear_69 (by decide) ?_
  refine s_imul dX5_chartedNear_71 ?_
  refine s_iload (x := min 30 (l1 + (l3 - (if 0 ≤ l2 - l6 then l2 - l6 else 0 - (l2 - l6))))) dX5_chartedNear_72 rfl ?_
  refine s_iadd dX5_chartedNear_74 ?_
  refine s_iconst dX5_chartedNear_75 ?_
  refine s_iadd dX5_chartedNear_76 ?_
  refine s_iald (c := 94) (i := ((l6 * 32) + (min 30 (l1 + (l3 - (if 0 ≤ l2 - l6 then l2 - l6 else 0 - (l2 - l6)))))) + 1) dX5_chartedNear_77 e94 r5.1 r5.2 ?_
  refine s_aload_n (x := 92) dX5_chartedNear_78 rfl ?_
  refine s_getFd (c := 92) (d := 94) dX5_chartedNear_79 lX5_15 e92 (Or.inl rfl) (by decide) (by decide) ?_
  refine s_iload (x := l6) dX5_chartedNear_82 rfl ?_
  refine s_bipush dX5_chartedNear_84 (by decide) ?_
  refine s_imul dX5_chartedNear_86 ?_
  refine s_iload (x := max 0 (l1 - (l3 - (if 0 ≤ l2 - l6 then l2 - l6 else 0 - (l2 - l6))))) dX5_chartedNear_87 rfl ?_
  refine s_iadd dX5_chartedNear_89 ?_
  refine s_iald (c := 94) (i := (l6 * 32) + (max 0 (l1 - (l3 - (if 0 ≤ l2 - l6 then l2 - l6 else 0 - (l2 - l6)))))) dX5_chartedNear_90 e94 r6.1 r6.2 ?_
  refine s_isub dX5_chartedNear_91 ?_
  refine s_iadd dX5_chartedNear_92 ?_
  refine s_istore dX5_chartedNear_93 rfl (by decide) ?_
  refine s_iinc (x := l6) dX5_chartedNear_95 rfl rfl (by decide) ?_
  exact s_goto (tgt := 22) dX5_chartedNear_98 (by decide) kk
theorem bX5_chartedNear_101 {fr M1 M2 b1 b2 : Nat} {Q : RS → Nat → AH → Prop} {h : AH} {l4 : Int} {x0 x1 x2 x3 x5 x6 x7 x8 x9 : AV}   (hq : Q (.inl (some (zI l4))) 137 h) : Wp mX5_chartedNear (kR fr M1 M2) Q (b1, b2) 101 [x0, x1, x2, x3, zI l4, x5, x6, x7, x8, x9] [] 137 h := by
  refine s_fgt (fgt_n _ (fgt_n _ (fgt_n _ (fgt_n _ (fgt_c (fgt_n _ (fgt_n _ (fgt_n _ (fgt_n _ (fgt_n _ fgt_0)))))))))) ?_
  refine s_iload (x := l4) dX5_chartedNear_101 rfl ?_
  exact s_ireturn dX5_chartedNear_103 ⟨.int, rfl, rfl⟩ hq (fun z => by cases z)
theorem dX9_forget_0 : decode mX9_forget.cd 0 = .ok (.aload_n 0, 1) := by decide +kernel
theorem dX9_forget_1 : decode mX9_forget.cd 1 = .ok (.iconst 0, 1) := by decide +kernel
theorem dX9_forget_2 : decode mX9_forget.cd 2 = .ok (.putfield 21, 3) := by decide +kernel
theorem dX9_forget_5 : decode mX9_forget.cd 5 = .ok (.return_, 1) := by decide +kernel
theorem bX9_forget_0 {fr M1 M2 b1 b2 : Nat} {Q : RS → Nat → AH → Prop} {h : AH}   (hq : Q (.inl none) 137 (up h 88 1 0)) : Wp mX9_forget (kR fr M1 M2) Q (b1, b2) 0 [zR 88] [] 137 h := by
  refine s_aload_n (x := 88) dX9_forget_0 rfl ?_
  refine s_iconst dX9_forget_1 ?_
  refine s_putZ (c := 88) dX9_forget_2 lX9_21 e88 (by decide) ?_
  exact s_return dX9_forget_5 rfl hq (fun z => by cases z)
theorem dX9_find_0 : decode mX9_find.cd 0 = .ok (.aload_n 0, 1) := by decide +kernel
theorem dX9_find_1 : decode mX9_find.cd 1 = .ok (.getfield 21, 3) := by decide +kernel
theorem dX9_find_4 : decode mX9_find.cd 4 = .ok (.ifCond .eq 4, 3) := by decide +kernel
theorem dX9_find_7 : decode mX9_find.cd 7 = .ok (.return_, 1) := by decide +kernel
theorem dX9_find_8 : decode mX9_find.cd 8 = .ok (.aload_n 0, 1) := by decide +kernel
theorem dX9_find_9 : decode mX9_find.cd 9 = .ok (.iconst 1, 1) := by decide +kernel
theorem dX9_find_10 : decode mX9_find.cd 10 = .ok (.putfield 21, 3) := by decide +kernel
theorem dX9_find_13 : decode mX9_find.cd 13 = .ok (.aload_n 0, 1) := by decide +kernel
theorem dX9_find_14 : decode mX9_find.cd 14 = .ok (.aload_n 1, 1) := by decide +kernel
theorem dX9_find_15 : decode mX9_find.cd 15 = .ok (.putfield 25, 3) := by decide +kernel
theorem dX9_find_18 : decode mX9_find.cd 18 = .ok (.aload_n 0, 1) := by decide +kernel
theorem dX9_find_19 : decode mX9_find.cd 19 = .ok (.aload_n 2, 1) := by decide +kernel
theorem dX9_find_20 : decode mX9_find.cd 20 = .ok (.putfield 29, 3) := by decide +kernel
theorem dX9_find_23 : decode mX9_find.cd 23 = .ok (.aload_n 0, 1) := by decide +kernel
theorem dX9_find_24 : decode mX9_find.cd 24 = .ok (.aload_n 3, 1) := by decide +kernel
theorem dX9_find_25 : decode mX9_find.cd 25 = .ok (.putfield 33, 3) := by decide +kernel
theorem dX9_find_28 : decode mX9_find.cd 28 = .ok (.aload_n 0, 1) := by decide +kernel
theorem dX9_find_29 : decode mX9_find.cd 29 = .ok (.aload 4, 2) := by decide +kernel
theorem dX9_find_31 : decode mX9_find.cd 31 = .ok (.putfield 37, 3) := by decide +kernel
theorem dX9_find_34 : decode mX9_find.cd 34 = .ok (.aload_n 0, 1) := by decide +kernel
theorem dX9_find_35 : decode mX9_find.cd 35 = .ok (.getfield 9, 3) := by decide +kernel
theorem dX9_find_38 : decode mX9_find.cd 38 = .ok (.iconst 0, 1) := by decide +kernel
theorem dX9_find_39 : decode mX9_find.cd 39 = .ok (.iconst 0, 1) := by decide +kernel
theorem dX9_find_40 : decode mX9_find.cd 40 = .ok (.iastore, 1) := by decide +kernel
theorem dX9_find_41 : decode mX9_find.cd 41 = .ok (.aload_n 0, 1) := by decide +kernel
theorem dX9_find_42 : decode mX9_find.cd 42 = .ok (.getfield 9, 3) := by decide +kernel
theorem dX9_find_45 : decode mX9_find.cd 45 = .ok (.iconst 1, 1) := by decide +kernel
theorem dX9_find_46 : decode mX9_find.cd 46 = .ok (.iconst (-1), 1) := by decide +kernel
theorem dX9_find_47 : decode mX9_find.cd 47 = .ok (.iastore, 1) := by decide +kernel
theorem dX9_find_48 : decode mX9_find.cd 48 = .ok (.aload_n 0, 1) := by decide +kernel
theorem dX9_find_49 : decode mX9_find.cd 49 = .ok (.getfield 9, 3) := by decide +kernel
theorem dX9_find_52 : decode mX9_find.cd 52 = .ok (.iconst 2, 1) := by decide +kernel
theorem dX9_find_53 : decode mX9_find.cd 53 = .ok (.iconst (-1), 1) := by decide +kernel
theorem dX9_find_54 : decode mX9_find.cd 54 = .ok (.iastore, 1) := by decide +kernel
theorem dX9_find_55 : decode mX9_find.cd 55 = .ok (.aload_n 0, 1) := by decide +kernel
theorem dX9_find_56 : decode mX9_find.cd 56 = .ok (.getfield 15, 3) := by decide +kernel
theorem dX9_find_59 : decode mX9_find.cd 59 = .ok (.iconst 0, 1) := by decide +kernel
theorem dX9_find_60 : decode mX9_find.cd 60 = .ok (.invokestatic 41, 3) := by decide +kernel
theorem dX9_find_63 : decode mX9_find.cd 63 = .ok (.aload_n 0, 1) := by decide +kernel
theorem dX9_find_64 : decode mX9_find.cd 64 = .ok (.iconst 0, 1) := by decide +kernel
theorem dX9_find_65 : decode mX9_find.cd 65 = .ok (.putfield 47, 3) := by decide +kernel
theorem dX9_find_68 : decode mX9_find.cd 68 = .ok (.iconst 0, 1) := by decide +kernel
theorem dX9_find_69 : decode mX9_find.cd 69 = .ok (.istore 5, 2) := by decide +kernel
theorem dX9_find_71 : decode mX9_find.cd 71 = .ok (.iload 5, 2) := by decide +kernel
theorem dX9_find_73 : decode mX9_find.cd 73 = .ok (.bipush 60, 2) := by decide +kernel
theorem dX9_find_75 : decode mX9_find.cd 75 = .ok (.if_icmp .ge 53, 3) := by decide +kernel
theorem dX9_find_78 : decode mX9_find.cd 78 = .ok (.aload_n 0, 1) := by decide +kernel
theorem dX9_find_79 : decode mX9_find.cd 79 = .ok (.getfield 47, 3) := by decide +kernel
theorem dX9_find_82 : decode mX9_find.cd 82 = .ok (.bipush 14, 2) := by decide +kernel
theorem dX9_find_84 : decode mX9_find.cd 84 = .ok (.if_icmp .ge 44, 3) := by decide +kernel
theorem dX9_find_87 : decode mX9_find.cd 87 = .ok (.aload_n 0, 1) := by decide +kernel
theorem dX9_find_88 : decode mX9_find.cd 88 = .ok (.getfield 29, 3) := by decide +kernel
theorem dX9_find_91 : decode mX9_find.cd 91 = .ok (.getfield 51, 3) := by decide +kernel
theorem dX9_find_94 : decode mX9_find.cd 94 = .ok (.iload 5, 2) := by decide +kernel
theorem dX9_find_96 : decode mX9_find.cd 96 = .ok (.iaload, 1) := by decide +kernel
theorem dX9_find_97 : decode mX9_find.cd 97 = .ok (.iconst (-1), 1) := by decide +kernel
theorem dX9_find_98 : decode mX9_find.cd 98 = .ok (.if_icmp .eq 24, 3) := by decide +kernel
theorem dX9_find_101 : decode mX9_find.cd 101 = .ok (.aload_n 0, 1) := by decide +kernel
theorem dX9_find_102 : decode mX9_find.cd 102 = .ok (.getfield 18, 3) := by decide +kernel
theorem dX9_find_105 : decode mX9_find.cd 105 = .ok (.aload_n 0, 1) := by decide +kernel
theorem dX9_find_106 : decode mX9_find.cd 106 = .ok (.getfield 47, 3) := by decide +kernel
theorem dX9_find_109 : decode mX9_find.cd 109 = .ok (.iload 5, 2) := by decide +kernel
theorem dX9_find_111 : decode mX9_find.cd 111 = .ok (.iastore, 1) := by decide +kernel
theorem dX9_find_112 : decode mX9_find.cd 112 = .ok (.aload_n 0, 1) := by decide +kernel
theorem dX9_find_113 : decode mX9_find.cd 113 = .ok (.dup, 1) := by decide +kernel
theorem dX9_find_114 : decode mX9_find.cd 114 = .ok (.getfield 47, 3) := by decide +kernel
theorem dX9_find_117 : decode mX9_find.cd 117 = .ok (.iconst 1, 1) := by decide +kernel
theorem dX9_find_118 : decode mX9_find.cd 118 = .ok (.iadd, 1) := by decide +kernel
theorem dX9_find_119 : decode mX9_find.cd 119 = .ok (.putfield 47, 3) := by decide +kernel
theorem dX9_find_122 : decode mX9_find.cd 122 = .ok (.iinc 5 1, 3) := by decide +kernel
theorem dX9_find_125 : decode mX9_find.cd 125 = .ok (.goto (-54), 3) := by decide +kernel
theorem dX9_find_128 : decode mX9_find.cd 128 = .ok (.aload_n 0, 1) := by decide +kernel
theorem dX9_find_129 : decode mX9_find.cd 129 = .ok (.iconst 0, 1) := by decide +kernel
theorem dX9_find_130 : decode mX9_find.cd 130 = .ok (.aload_n 0, 1) := by decide +kernel
theorem dX9_find_131 : decode mX9_find.cd 131 = .ok (.getfield 47, 3) := by decide +kernel
theorem dX9_find_134 : decode mX9_find.cd 134 = .ok (.ifCond .le 12, 3) := by decide +kernel
theorem dX9_find_137 : decode mX9_find.cd 137 = .ok (.aload_n 0, 1) := by decide +kernel
theorem dX9_find_138 : decode mX9_find.cd 138 = .ok (.getfield 18, 3) := by decide +kernel
theorem dX9_find_141 : decode mX9_find.cd 141 = .ok (.iconst 0, 1) := by decide +kernel
theorem dX9_find_142 : decode mX9_find.cd 142 = .ok (.iaload, 1) := by decide +kernel
theorem dX9_find_143 : decode mX9_find.cd 143 = .ok (.goto 5, 3) := by decide +kernel
theorem dX9_find_146 : decode mX9_find.cd 146 = .ok (.bipush 60, 2) := by decide +kernel
theorem dX9_find_148 : decode mX9_find.cd 148 = .ok (.iconst (-1), 1) := by decide +kernel
theorem dX9_find_149 : decode mX9_find.cd 149 = .ok (.invokevirtual 56, 3) := by decide +kernel
theorem dX9_find_152 : decode mX9_find.cd 152 = .ok (.ifCond .eq 10, 3) := by decide +kernel
theorem dX9_find_155 : decode mX9_find.cd 155 = .ok (.aload_n 0, 1) := by decide +kernel
theorem dX9_find_156 : decode mX9_find.cd 156 = .ok (.iconst 0, 1) := by decide +kernel
theorem dX9_find_157 : decode mX9_find.cd 157 = .ok (.iconst 0, 1) := by decide +kernel
theorem dX9_find_158 : decode mX9_find.cd 158 = .ok (.iconst (-1), 1) := by decide +kernel
theorem dX9_find_159 : decode mX9_find.cd 159 = .ok (.invokevirtual 60, 3) := by decide +kernel
theorem dX9_find_162 : decode mX9_find.cd 162 = .ok (.return_, 1) := by decide +kernel
theorem bX9_find_0 {fr M1 M2 b1 b2 : Nat} {Q : RS → Nat → AH → Prop} {h : AH} {l1 l2 l4 : Int} {x5 : AV}  (r1 : -2147483648 ≤ h 88 1 ∧ h 88 1 < 2147483648 := by omega) (kt : h 88 1 = 0 → Wp mX9_find (kR fr M1 M2) Q (b1, b2) 8 [zR 88, zR l1, zR l2, zR 51, zR l4, none] [] 137 h) (kf : ¬ h 88 1 = 0 → Wp mX9_find (kR fr M1 M2) Q (b1, b2) 7 [zR 88, zR l1, zR l2, zR 51, zR l4, none] [] 137 h) : Wp mX9_find (kR fr M1 M2) Q (b1, b2) 0 [zR 88, zR l1, zR l2, zR 51, zR l4, x5] [] 137 h := by
  refine s_fgt (fgt_c (fgt_c (fgt_c (fgt_c (fgt_c (fgt_n _ fgt_0)))))) ?_
  refine s_aload_n (x := 88) dX9_find_0 rfl ?_
  refine s_get (c := 88) dX9_find_1 lX9_21 e88 (by decide) ?_
  exact s_if_eq (tgt := 8) dX9_find_4 (by decide) r1 kt kf
theorem bX9_find_7 {fr M1 M2 b1 b2 : Nat} {Q : RS → Nat → AH → Prop} {h : AH} {x0 x1 x2 x3 x4 x5 : AV}   (hq : Q (.inl none) 137 h) : Wp mX9_find (kR fr M1 M2) Q (b1, b2) 7 [x0, x1, x2, x3, x4, x5] [] 137 h := by
  refine s_fgt (fgt_n _ (fgt_n _ (fgt_n _ (fgt_n _ (fgt_n _ (fgt_n _ fgt_0)))))) ?_
  exact s_return dX9_find_7 rfl hq (fun z => by cases z)
theorem bX9_find_8 {fr M1 M2 b1 b2 : Nat} {Q : RS → Nat → AH → Prop} {h : AH} {l1 l2 l4 : Int} {x5 : AV} {R : AH → Prop}   (hS : Sp mJ7_fill_53178 true (fr - 1) 0 0 [zR 90, zI 0] 137 (up (up (up (up (up (up (up (up h 88 1 1) 88 5 l1) 88 6 l2) 88 7 51) 88 8 l4) 89 0 0) 89 1 (-1)) 89 2 (-1)) (rV R)) (hf : 1 ≤ fr := by omega) (kk : ∀ h' : AH, R h' → Wp mX9_find (kR fr M1 M2) Q (b1, b2) 63 [zR 88, zR l1, zR l2, zR 51, zR l4, none] [] 137 h') : Wp mX9_find (kR fr M1 M2) Q (b1, b2) 8 [zR 88, zR l1, zR l2, zR 51, zR l4, x5] [] 137 h := by
  refine s_fgt (fgt_c (fgt_c (fgt_c (fgt_c (fgt_c (fgt_n _ fgt_0)))))) ?_
  refine s_aload_n (x := 88) dX9_find_8 rfl ?_
  refine s_iconst dX9_find_9 ?_
  refine s_putZ (c := 88) dX9_find_10 lX9_21 e88 (by decide) ?_
  refine s_aload_n (x := 88) dX9_find_13 rfl ?_
  refine s_aload_n (x := l1) dX9_find_14 rfl ?_
  refine s_putR (c := 88) dX9_find_15 lX9_25 e88 ?_
  refine s_aload_n (x := 88) dX9_find_18 rfl ?_
  refine s_aload_n (x := l2) dX9_find_19 rfl ?_
  refine s_putR (c := 88) dX9_find_20 lX9_29 e88 ?_
  refine s_aload_n (x := 88) dX9_find_23 rfl ?_
  refine s_aload_n (x := 51) dX9_find_24 rfl ?_
  refine s_putR (c := 88) dX9_find_25 lX9_33 e88 ?_
  refine s_aload_n (x := 88) dX9_find_28 rfl ?_
  refine s_aload (x := l4) dX9_find_29 rfl ?_
  refine s_putR (c := 88) dX9_find_31 lX9_37 e88 ?_
  refine s_aload_n (x := 88) dX9_find_34 rfl ?_
  refine s_getFd (c := 88) (d := 89) dX9_find_35 lX9_9 e88 (Or.inl rfl) (by decide) (by decide) ?_
  refine s_iconst dX9_find_38 ?_
  refine s_iconst dX9_find_39 ?_
  refine s_iast (c := 89) (i := 0) dX9_find_40 e89 (by decide) (by decide) ?_
  refine s_aload_n (x := 88) dX9_find_41 rfl ?_
  refine s_getFd (c := 88) (d := 89) dX9_find_42 lX9_9 e88 (Or.inl rfl) (by decide) (by decide) ?_
  refine s_iconst dX9_find_45 ?_
  refine s_iconst dX9_find_46 ?_
  refine s_iast (c := 89) (i := 1) dX9_find_47 e89 (by decide) (by decide) ?_
  refine s_aload_n (x := 88) dX9_find_48 rfl ?_
  refine s_getFd (c := 88) (d := 89) dX9_find_49 lX9_9 e88 (Or.inl rfl) (by decide) (by decide) ?_
  refine s_iconst dX9_find_52 ?_
  refine s_iconst dX9_find_53 ?_
  refine s_iast (c := 89) (i := 2) dX9_find_54 e89 (by decide) (by decide) ?_
  refine s_aload_n (x := 88) dX9_find_55 rfl ?_
  refine s_getFd (c := 88) (d := 90) dX9_find_56 lX9_15 e88 (Or.inl rfl) (by decide) (by decide) ?_
  refine s_iconst dX9_find_59 ?_
  exact s_callS (as := [zR 90, zI 0]) (st := []) dX9_find_60 kX9_41 rfl rfl (Nat.le_of_ble_eq_true rfl) hS (show fr - 1 + 1 ≤ fr by omega) (Nat.zero_le _) (Nat.zero_le _) (fun v n' h' hP _ => by obtain ⟨e, rfl, hR⟩ := hP; cases e; exact kk h' hR) (fun E n' h' _ z => (rV_nt _ _ _ z).elim)
theorem bX9_find_63 {fr M1 M2 b1 b2 : Nat} {Q : RS → Nat → AH → Prop} {h : AH} {x1 x2 x3 x4 x5 : AV}   (kk : Wp mX9_find (kR fr M1 M2) Q (b1, b2) 71 [zR 88, none, none, none, none, zI 0] [] 137 (up h 88 4 0)) : Wp mX9_find (kR fr M1 M2) Q (b1, b2) 63 [zR 88, x1, x2, x3, x4, x5] [] 137 h := by
  refine s_fgt (fgt_c (fgt_n _ (fgt_n _ (fgt_n _ (fgt_n _ (fgt_n _ fgt_0)))))) ?_
  refine s_aload_n (x := 88) dX9_find_63 rfl ?_
  refine s_iconst dX9_find_64 ?_
  refine s_put (c := 88) dX9_find_65 lX9_47 e88 ?_
  refine s_iconst dX9_find_68 ?_
  refine s_istore dX9_find_69 rfl (by decide) ?_
  exact kk
theorem bX9_find_71 {fr M1 M2 b1 b2 : Nat} {Q : RS → Nat → AH → Prop} {h : AH} {l5 : Int} {x1 x2 x3 x4 : AV}  (r1 : -2147483648 ≤ l5 ∧ l5 < 2147483648 := by omega) (kt : 60 ≤ l5 → Wp mX9_find (kR fr M1 M2) Q (b1, b2) 128 [zR 88, none, none, none, none, zI l5] [] 137 h) (kf : l5 < 60 → Wp mX9_find (kR fr M1 M2) Q (b1, b2) 78 [zR 88, none, none, none, none, zI l5] [] 137 h) : Wp mX9_find (kR fr M1 M2) Q (b1, b2) 71 [zR 88, x1, x2, x3, x4, zI l5] [] 137 h := by
  refine s_fgt (fgt_c (fgt_n _ (fgt_n _ (fgt_n _ (fgt_n _ (fgt_c fgt_0)))))) ?_
  refine s_iload (x := l5) dX9_find_71 rfl ?_
  refine s_bipush dX9_find_73 (by decide) ?_
  exact s_icmp_ge (tgt := 128) dX9_find_75 (by decide) r1 ⟨by decide, by decide⟩ kt kf
theorem bX9_find_78 {fr M1 M2 b1 b2 : Nat} {Q : RS → Nat → AH → Prop} {h : AH} {l5 : Int} {x1 x2 x3 x4 : AV}  (r1 : -2147483648 ≤ h 88 4 ∧ h 88 4 < 2147483648 := by omega) (kt : 14 ≤ h 88 4 → Wp mX9_find (kR fr M1 M2) Q (b1, b2) 128 [zR 88, none, none, none, none, zI l5] [] 137 h) (kf : h 88 4 < 14 → Wp mX9_find (kR fr M1 M2) Q (b1, b2) 87 [zR 88, none, none, none, none, zI l5] [] 137 h) : Wp mX9_find (kR fr M1 M2) Q (b1, b2) 78 [zR 88, x1, x2, x3, x4, zI l5] [] 137 h := by
  refine s_fgt (fgt_c (fgt_n _ (fgt_n _ (fgt_n _ (fgt_n _ (fgt_c fgt_0)))))) ?_
  refine s_aload_n (x := 88) dX9_find_78 rfl ?_
  refine s_get (c := 88) dX9_find_79 lX9_47 e88 (by decide) ?_
  refine s_bipush dX9_find_82 (by decide) ?_
  exact s_icmp_ge (tgt := 128) dX9_find_84 (by decide) r1 ⟨by decide, by decide⟩ kt kf
theorem bX9_find_87 {fr M1 M2 b1 b2 : Nat} {Q : RS → Nat → AH → Prop} {h : AH} {l5 : Int} {x1 x2 x3 x4 : AV} (c1 : cel 137 (h 88 6) (8, 8) := by first | assumption | omega) (r1 : 0 ≤ l5 ∧ l5 < 60 := by omega) (r2 : -2147483648 ≤ h ((h 88 6) + 2) l5 ∧ h ((h 88 6) + 2) l5 < 2147483648 := by omega) (kt : h ((h 88 6) + 2) l5 = (-1) → Wp mX9_find (kR fr M1 M2) Q (b1, b2) 122 [zR 88, none, none, none, none, zI l5] [] 137 h) (kf : ¬ h ((h 88 6) + 2) l5 = (-1) → Wp mX9_find (kR fr M1 M2) Q (b1, b2) 101 [zR 88, none, none, none, none, zI l5] [] 137 h) : Wp mX9_find (kR fr M1 M2) Q (b1, b2) 87 [zR 88, x1, x2, x3, x4, zI l5] [] 137 h := by
  refine s_fgt (fgt_c (fgt_n _ (fgt_n _ (fgt_n _ (fgt_n _ (fgt_c fgt_0)))))) ?_
  refine s_aload_n (x := 88) dX9_find_87 rfl ?_
  refine s_getR (c := 88) dX9_find_88 lX9_29 e88 rfl ?_
  refine s_getFd (c := h 88 6) (d := (h 88 6) + 2) dX9_find_91 lX9_51 c1 (Or.inl rfl) rfl (ne0 (fin_X8_2 c1)) ?_
  refine s_iload (x := l5) dX9_find_94 rfl ?_
  refine s_iald (c := (h 88 6) + 2) (i := l5) dX9_find_96 (fin_X8_2 c1) r1.1 r1.2 ?_
  refine s_iconst dX9_find_97 ?_
  exact s_icmp_eq (tgt := 122) dX9_find_98 (by decide) r2 ⟨by decide, by decide⟩ kt kf
theorem bX9_find_101 {fr M1 M2 b1 b2 : Nat} {Q : RS → Nat → AH → Prop} {h : AH} {l5 : Int} {x1 x2 x3 x4 : AV}  (r1 : 0 ≤ h 88 4 ∧ h 88 4 < 14 := by omega) (kk : Wp mX9_find (kR fr M1 M2) Q (b1, b2) 122 [zR 88, none, none, none, none, zI l5] [] 137 (up (up h 91 (h 88 4) l5) 88 4 ((h 88 4) + 1))) : Wp mX9_find (kR fr M1 M2) Q (b1, b2) 101 [zR 88, x1, x2, x3, x4, zI l5] [] 137 h := by
  refine s_fgt (fgt_c (fgt_n _ (fgt_n _ (fgt_n _ (fgt_n _ (fgt_c fgt_0)))))) ?_
  refine s_aload_n (x := 88) dX9_find_101 rfl ?_
  refine s_getFd (c := 88) (d := 91) dX9_find_102 lX9_18 e88 (Or.inl rfl) (by decide) (by decide) ?_
  refine s_aload_n (x := 88) dX9_find_105 rfl ?_
  refine s_get (c := 88) dX9_find_106 lX9_47 e88 (by decide) ?_
  refine s_iload (x := l5) dX9_find_109 rfl ?_
  refine s_iast (c := 91) (i := h 88 4) dX9_find_111 e91 r1.1 r1.2 ?_
  refine s_aload_n (x := 88) dX9_find_112 rfl ?_
  refine s_dup dX9_find_113 rfl ?_
  refine s_get (c := 88) dX9_find_114 lX9_47 e88 (by decide) ?_
  refine s_iconst dX9_find_117 ?_
  refine s_iadd dX9_find_118 ?_
  refine s_put (c := 88) dX9_find_119 lX9_47 e88 ?_
  exact kk
theorem bX9_find_122 {fr M1 M2 b1 b2 : Nat} {Q : RS → Nat → AH → Prop} {h : AH} {l5 : Int} {x1 x2 x3 x4 : AV}   (kk : Wp mX9_find (kR fr M1 M2) Q (b1, b2) 71 [zR 88, none, none, none, none, zI (l5 + 1)] [] 137 h) : Wp mX9_find (kR fr M1 M2) Q (b1, b2) 122 [zR 88, x1, x2, x3, x4, zI l5] [] 137 h := by
  refine s_fgt (fgt_c (fgt_n _ (fgt_n _ (fgt_n _ (fgt_n _ (fgt_c fgt_0)))))) ?_
  refine s_iinc (x := l5) dX9_find_122 rfl rfl (by decide) ?_
  exact s_goto (tgt := 71) dX9_find_125 (by decide) kk
theorem bX9_find_128 {fr M1 M2 b1 b2 : Nat} {Q : RS → Nat → AH → Prop} {h : AH} {x1 x2 x3 x4 x5 : AV}  (r1 : -2147483648 ≤ h 88 4 ∧ h 88 4 < 2147483648 := by omega) (kt : h 88 4 ≤ 0 → Wp mX9_find (kR fr M1 M2) Q (b1, b2) 146 [zR 88, none, none, none, none, none] [zI 0, zR 88] 137 h) (kf : 0 < h 88 4 → Wp mX9_find (kR fr M1 M2) Q (b1, b2) 137 [zR 88, none, none, none, none, none] [zI 0, zR 88] 137 h) : Wp mX9_find (kR fr M1 M2) Q (b1, b2) 128 [zR 88, x1, x2, x3, x4, x5] [] 137 h := by
  refine s_fgt (fgt_c (fgt_n _ (fgt_n _ (fgt_n _ (fgt_n _ (fgt_n _ fgt_0)))))) ?_
  refine s_aload_n (x := 88) dX9_find_128 rfl ?_
  refine s_iconst dX9_find_129 ?_
  refine s_aload_n (x := 88) dX9_find_130 rfl ?_
  refine s_get (c := 88) dX9_find_131 lX9_47 e88 (by decide) ?_
  exact s_if_le (tgt := 146) dX9_find_134 (by decide) r1 kt kf
theorem bX9_find_137 {fr M1 M2 b1 b2 : Nat} {Q : RS → Nat → AH → Prop} {h : AH} {s0 : Int} {x1 x2 x3 x4 x5 : AV}   (kk : Wp mX9_find (kR fr M1 M2) Q (b1, b2) 148 [zR 88, none, none, none, none, none] [zI (h 91 0), zI s0, zR 88] 137 h) : Wp mX9_find (kR fr M1 M2) Q (b1, b2) 137 [zR 88, x1, x2, x3, x4, x5] [zI s0, zR 88] 137 h := by
  refine s_fgt (fgt_c (fgt_n _ (fgt_n _ (fgt_n _ (fgt_n _ (fgt_n _ fgt_0)))))) ?_
  refine s_aload_n (x := 88) dX9_find_137 rfl ?_
  refine s_getFd (c := 88) (d := 91) dX9_find_138 lX9_18 e88 (Or.inl rfl) (by decide) (by decide) ?_
  refine s_iconst dX9_find_141 ?_
  refine s_iald (c := 91) (i := 0) dX9_find_142 e91 (by decide) (by decide) ?_
  exact s_goto (tgt := 148) dX9_find_143 (by decide) kk
theorem bX9_find_146 {fr M1 M2 b1 b2 : Nat} {Q : RS → Nat → AH → Prop} {h : AH} {s0 : Int} {x1 x2 x3 x4 x5 : AV}   (kk : Wp mX9_find (kR fr M1 M2) Q (b1, b2) 148 [zR 88, none, none, none, none, none] [zI 60, zI s0, zR 88] 137 h) : Wp mX9_find (kR fr M1 M2) Q (b1, b2) 146 [zR 88, x1, x2, x3, x4, x5] [zI s0, zR 88] 137 h := by
  refine s_fgt (fgt_c (fgt_n _ (fgt_n _ (fgt_n _ (fgt_n _ (fgt_n _ fgt_0)))))) ?_
  refine s_bipush dX9_find_146 (by decide) ?_
  exact kk
theorem bX9_find_148 {fr M1 M2 b1 b2 : Nat} {Q : RS → Nat → AH → Prop} {h : AH} {s1 s0 : Int} {x1 x2 x3 x4 x5 : AV} {R : Int → AH → Prop}   (hS : Sp mX9_isHeardAsTold true (fr - 1) 0 0 [zR 88, zI s1, zI s0, zI (-1)] 137 h (rI R)) (hf : 1 ≤ fr := by omega) (kk : ∀ (x : Int) (h' : AH), R x h' → Wp mX9_find (kR fr M1 M2) Q (b1, b2) 152 [zR 88, none, none, none, none, none] [zI x] 137 h') : Wp mX9_find (kR fr M1 M2) Q (b1, b2) 148 [zR 88, x1, x2, x3, x4, x5] [zI s0, zI s1, zR 88] 137 h := by
  refine s_fgt (fgt_c (fgt_n _ (fgt_n _ (fgt_n _ (fgt_n _ (fgt_n _ fgt_0)))))) ?_
  refine s_iconst dX9_find_148 ?_
  exact s_callV (as := [zI s1, zI s0, zI (-1)]) (st := []) (o := 88) dX9_find_149 kX9_56 rfl ⟨9, 9, TX9, e88, rfl, by decide⟩ rfl rfl (Nat.le_of_ble_eq_true rfl) hS (show fr - 1 + 1 ≤ fr by omega) (Nat.zero_le _) (Nat.zero_le _) (fun v n' h' hP _ => by obtain ⟨x, e, rfl, hR⟩ := hP; cases e; exact kk x h' hR) (fun E n' h' _ z => (rI_nt _ _ _ z).elim)
theorem bX9_find_152 {fr M1 M2 b1 b2 : Nat} {Q : RS → Nat → AH → Prop} {h : AH} {s0 : Int} {x1 x2 x3 x4 x5 : AV}  (r1 : -2147483648 ≤ s0 ∧ s0 < 2147483648 := by omega) (kt : s0 = 0 → Wp mX9_find (kR fr M1 M2) Q (b1, b2) 162 [zR 88, none, none, none, none, none] [] 137 h) (kf : ¬ s0 = 0 → Wp mX9_find (kR fr M1 M2) Q (b1, b2) 155 [zR 88, none, none, none, none, none] [] 137 h) : Wp mX9_find (kR fr M1 M2) Q (b1, b2) 152 [zR 88, x1, x2, x3, x4, x5] [zI s0] 137 h := by
  refine s_fgt (fgt_c (fgt_n _ (fgt_n _ (fgt_n _ (fgt_n _ (fgt_n _ fgt_0)))))) ?_
  exact s_if_eq (tgt := 162) dX9_find_152 (by decide) r1 kt kf
theorem bX9_find_155 {fr M1 M2 b1 b2 : Nat} {Q : RS → Nat → AH → Prop} {h : AH} {x1 x2 x3 x4 x5 : AV} {R : AH → Prop}   (hS : Sp mX9_search true (fr - 1) 0 0 [zR 88, zI 0, zI 0, zI (-1)] 137 h (rV R)) (hf : 1 ≤ fr := by omega) (kk : ∀ h' : AH, R h' → Wp mX9_find (kR fr M1 M2) Q (b1, b2) 162 [zR 88, none, none, none, none, none] [] 137 h') : Wp mX9_find (kR fr M1 M2) Q (b1, b2) 155 [zR 88, x1, x2, x3, x4, x5] [] 137 h := by
  refine s_fgt (fgt_c (fgt_n _ (fgt_n _ (fgt_n _ (fgt_n _ (fgt_n _ fgt_0)))))) ?_
  refine s_aload_n (x := 88) dX9_find_155 rfl ?_
  refine s_iconst dX9_find_156 ?_
  refine s_iconst dX9_find_157 ?_
  refine s_iconst dX9_find_158 ?_
  exact s_callV (as := [zI 0, zI 0, zI (-1)]) (st := []) (o := 88) dX9_find_159 kX9_60 rfl ⟨9, 9, TX9, e88, rfl, by decide⟩ rfl rfl (Nat.le_of_ble_eq_true rfl) hS (show fr - 1 + 1 ≤ fr by omega) (Nat.zero_le _) (Nat.zero_le _) (fun v n' h' hP _ => by obtain ⟨e, rfl, hR⟩ := hP; cases e; exact kk h' hR) (fun E n' h' _ z => (rV_nt _ _ _ z).elim)
theorem bX9_find_162 {fr M1 M2 b1 b2 : Nat} {Q : RS → Nat → AH → Prop} {h : AH} {x0 x1 x2 x3 x4 x5 : AV}   (hq : Q (.inl none) 137 h) : Wp mX9_find (kR fr M1 M2) Q (b1, b2) 162 [x0, x1, x2, x3, x4, x5] [] 137 h := by
  refine s_fgt (fgt_n _ (fgt_n _ (fgt_n _ (fgt_n _ (fgt_n _ (fgt_n _ fgt_0)))))) ?_
  exact s_return dX9_find_162 rfl hq (fun z => by cases z)
theorem dX9_search_0 : decode mX9_search.cd 0 = .ok (.iload_n 1, 1) := by decide +kernel
theorem dX9_search_1 : decode mX9_search.cd 1 = .ok (.aload_n 0, 1) := by decide +kernel
theorem dX9_search_2 : decode mX9_search.cd 2 = .ok (.getfield 47, 3) := by decide +kernel
theorem dX9_search_5 : decode mX9_search.cd 5 = .ok (.if_icmp .lt 9, 3) := by decide +kernel
theorem dX9_search_8 : decode mX9_search.cd 8 = .ok (.aload_n 0, 1) := by decide +kernel
theorem dX9_search_9 : decode mX9_search.cd 9 = .ok (.iload_n 2, 1) := by decide +kernel
theorem dX9_search_10 : decode mX9_search.cd 10 = .ok (.invokevirtual 64, 3) := by decide +kernel
theorem dX9_search_13 : decode mX9_search.cd 13 = .ok (.return_, 1) := by decide +kernel
theorem dX9_search_14 : decode mX9_search.cd 14 = .ok (.aload_n 0, 1) := by decide +kernel
theorem dX9_search_15 : decode mX9_search.cd 15 = .ok (.getfield 18, 3) := by decide +kernel
theorem dX9_search_18 : decode mX9_search.cd 18 = .ok (.iload_n 1, 1) := by decide +kernel
theorem dX9_search_19 : decode mX9_search.cd 19 = .ok (.iaload, 1) := by decide +kernel
theorem dX9_search_20 : decode mX9_search.cd 20 = .ok (.istore 4, 2) := by decide +kernel
theorem dX9_search_22 : decode mX9_search.cd 22 = .ok (.iload_n 1, 1) := by decide +kernel
theorem dX9_search_23 : decode mX9_search.cd 23 = .ok (.iconst 1, 1) := by decide +kernel
theorem dX9_search_24 : decode mX9_search.cd 24 = .ok (.iadd, 1) := by decide +kernel
theorem dX9_search_25 : decode mX9_search.cd 25 = .ok (.aload_n 0, 1) := by decide +kernel
theorem dX9_search_26 : decode mX9_search.cd 26 = .ok (.getfield 47, 3) := by decide +kernel
theorem dX9_search_29 : decode mX9_search.cd 29 = .ok (.if_icmp .ge 14, 3) := by decide +kernel
theorem dX9_search_32 : decode mX9_search.cd 32 = .ok (.aload_n 0, 1) := by decide +kernel
theorem dX9_search_33 : decode mX9_search.cd 33 = .ok (.getfield 18, 3) := by decide +kernel
theorem dX9_search_36 : decode mX9_search.cd 36 = .ok (.iload_n 1, 1) := by decide +kernel
theorem dX9_search_37 : decode mX9_search.cd 37 = .ok (.iconst 1, 1) := by decide +kernel
theorem dX9_search_38 : decode mX9_search.cd 38 = .ok (.iadd, 1) := by decide +kernel
theorem dX9_search_39 : decode mX9_search.cd 39 = .ok (.iaload, 1) := by decide +kernel
theorem dX9_search_40 : decode mX9_search.cd 40 = .ok (.goto 5, 3) := by decide +kernel
theorem dX9_search_43 : decode mX9_search.cd 43 = .ok (.bipush 60, 2) := by decide +kernel
theorem dX9_search_45 : decode mX9_search.cd 45 = .ok (.istore 5, 2) := by decide +kernel
theorem dX9_search_47 : decode mX9_search.cd 47 = .ok (.aload_n 0, 1) := by decide +kernel
theorem dX9_search_48 : decode mX9_search.cd 48 = .ok (.getfield 15, 3) := by decide +kernel
theorem dX9_search_51 : decode mX9_search.cd 51 = .ok (.iload 4, 2) := by decide +kernel
theorem dX9_search_53 : decode mX9_search.cd 53 = .ok (.iconst 0, 1) := by decide +kernel
theorem dX9_search_54 : decode mX9_search.cd 54 = .ok (.iastore, 1) := by decide +kernel
theorem dX9_search_55 : decode mX9_search.cd 55 = .ok (.aload_n 0, 1) := by decide +kernel
theorem dX9_search_56 : decode mX9_search.cd 56 = .ok (.iload 4, 2) := by decide +kernel
theorem dX9_search_58 : decode mX9_search.cd 58 = .ok (.iload 5, 2) := by decide +kernel
theorem dX9_search_60 : decode mX9_search.cd 60 = .ok (.iload_n 3, 1) := by decide +kernel
theorem dX9_search_61 : decode mX9_search.cd 61 = .ok (.invokevirtual 56, 3) := by decide +kernel
theorem dX9_search_64 : decode mX9_search.cd 64 = .ok (.ifCond .eq 12, 3) := by decide +kernel
theorem dX9_search_67 : decode mX9_search.cd 67 = .ok (.aload_n 0, 1) := by decide +kernel
theorem dX9_search_68 : decode mX9_search.cd 68 = .ok (.iload_n 1, 1) := by decide +kernel
theorem dX9_search_69 : decode mX9_search.cd 69 = .ok (.iconst 1, 1) := by decide +kernel
theorem dX9_search_70 : decode mX9_search.cd 70 = .ok (.iadd, 1) := by decide +kernel
theorem dX9_search_71 : decode mX9_search.cd 71 = .ok (.iload_n 2, 1) := by decide +kernel
theorem dX9_search_72 : decode mX9_search.cd 72 = .ok (.iload_n 3, 1) := by decide +kernel
theorem dX9_search_73 : decode mX9_search.cd 73 = .ok (.invokevirtual 60, 3) := by decide +kernel
theorem dX9_search_76 : decode mX9_search.cd 76 = .ok (.aload_n 0, 1) := by decide +kernel
theorem dX9_search_77 : decode mX9_search.cd 77 = .ok (.getfield 15, 3) := by decide +kernel
theorem dX9_search_80 : decode mX9_search.cd 80 = .ok (.iload 4, 2) := by decide +kernel
theorem dX9_search_82 : decode mX9_search.cd 82 = .ok (.iconst 1, 1) := by decide +kernel
theorem dX9_search_83 : decode mX9_search.cd 83 = .ok (.iconst 0, 1) := by decide +kernel
theorem dX9_search_84 : decode mX9_search.cd 84 = .ok (.aload_n 0, 1) := by decide +kernel
theorem dX9_search_85 : decode mX9_search.cd 85 = .ok (.getfield 29, 3) := by decide +kernel
theorem dX9_search_88 : decode mX9_search.cd 88 = .ok (.getfield 51, 3) := by decide +kernel
theorem dX9_search_91 : decode mX9_search.cd 91 = .ok (.iload 4, 2) := by decide +kernel
theorem dX9_search_93 : decode mX9_search.cd 93 = .ok (.iaload, 1) := by decide +kernel
theorem dX9_search_94 : decode mX9_search.cd 94 = .ok (.invokestatic 68, 3) := by decide +kernel
theorem dX9_search_97 : decode mX9_search.cd 97 = .ok (.ishl, 1) := by decide +kernel
theorem dX9_search_98 : decode mX9_search.cd 98 = .ok (.iastore, 1) := by decide +kernel
theorem dX9_search_99 : decode mX9_search.cd 99 = .ok (.aload_n 0, 1) := by decide +kernel
theorem dX9_search_100 : decode mX9_search.cd 100 = .ok (.iload 4, 2) := by decide +kernel
theorem dX9_search_102 : decode mX9_search.cd 102 = .ok (.iload 5, 2) := by decide +kernel
theorem dX9_search_104 : decode mX9_search.cd 104 = .ok (.iload 4, 2) := by decide +kernel
theorem dX9_search_106 : decode mX9_search.cd 106 = .ok (.invokevirtual 56, 3) := by decide +kernel
theorem dX9_search_109 : decode mX9_search.cd 109 = .ok (.ifCond .eq 17, 3) := by decide +kernel
theorem dX9_search_112 : decode mX9_search.cd 112 = .ok (.aload_n 0, 1) := by decide +kernel
theorem dX9_search_113 : decode mX9_search.cd 113 = .ok (.iload_n 1, 1) := by decide +kernel
theorem dX9_search_114 : decode mX9_search.cd 114 = .ok (.iconst 1, 1) := by decide +kernel
theorem dX9_search_115 : decode mX9_search.cd 115 = .ok (.iadd, 1) := by decide +kernel
theorem dX9_search_116 : decode mX9_search.cd 116 = .ok (.iload_n 2, 1) := by decide +kernel
theorem dX9_search_117 : decode mX9_search.cd 117 = .ok (.iconst 1, 1) := by decide +kernel
theorem dX9_search_118 : decode mX9_search.cd 118 = .ok (.iload_n 1, 1) := by decide +kernel
theorem dX9_search_119 : decode mX9_search.cd 119 = .ok (.ishl, 1) := by decide +kernel
theorem dX9_search_120 : decode mX9_search.cd 120 = .ok (.ior, 1) := by decide +kernel
theorem dX9_search_121 : decode mX9_search.cd 121 = .ok (.iload 4, 2) := by decide +kernel
theorem dX9_search_123 : decode mX9_search.cd 123 = .ok (.invokevirtual 60, 3) := by decide +kernel
theorem dX9_search_126 : decode mX9_search.cd 126 = .ok (.return_, 1) := by decide +kernel
theorem bX9_search_0 {fr M1 M2 b1 b2 : Nat} {Q : RS → Nat → AH → Prop} {h : AH} {l1 l2 l3 : Int} {x4 x5 : AV}  (r1 : -2147483648 ≤ l1 ∧ l1 < 2147483648 := by omega) (r2 : -2147483648 ≤ h 88 4 ∧ h 88 4 < 2147483648 := by omega) (kt : l1 < h 88 4 → Wp mX9_search (kR fr M1 M2) Q (b1, b2) 14 [zR 88, zI l1, zI l2, zI l3, none, none] [] 137 h) (kf : h 88 4 ≤ l1 → Wp mX9_search (kR fr M1 M2) Q (b1, b2) 8 [zR 88, zI l1, zI l2, zI l3, none, none] [] 137 h) : Wp mX9_search (kR fr M1 M2) Q (b1, b2) 0 [zR 88, zI l1, zI l2, zI l3, x4, x5] [] 137 h := by
  refine s_fgt (fgt_c (fgt_c (fgt_c (fgt_c (fgt_n _ (fgt_n _ fgt_0)))))) ?_
  refine s_iload_n (x := l1) dX9_search_0 rfl ?_
  refine s_aload_n (x := 88) dX9_search_1 rfl ?_
  refine s_get (c := 88) dX9_search_2 lX9_47 e88 (by decide) ?_
  exact s_icmp_lt (tgt := 14) dX9_search_5 (by decide) r1 r2 kt kf
theorem bX9_search_8 {fr M1 M2 b1 b2 : Nat} {Q : RS → Nat → AH → Prop} {h : AH} {l2 : Int} {x1 x3 x4 x5 : AV} {R : AH → Prop}   (hS : Sp mX9_take true (fr - 1) 0 0 [zR 88, zI l2] 137 h (rV R)) (hf : 1 ≤ fr := by omega) (kk : ∀ h' : AH, R h' → Wp mX9_search (kR fr M1 M2) Q (b1, b2) 13 [zR 88, none, zI l2, none, none, none] [] 137 h') : Wp mX9_search (kR fr M1 M2) Q (b1, b2) 8 [zR 88, x1, zI l2, x3, x4, x5] [] 137 h := by
  refine s_fgt (fgt_c (fgt_n _ (fgt_c (fgt_n _ (fgt_n _ (fgt_n _ fgt_0)))))) ?_
  refine s_aload_n (x := 88) dX9_search_8 rfl ?_
  refine s_iload_n (x := l2) dX9_search_9 rfl ?_
  exact s_callV (as := [zI l2]) (st := []) (o := 88) dX9_search_10 kX9_64 rfl ⟨9, 9, TX9, e88, rfl, by decide⟩ rfl rfl (Nat.le_of_ble_eq_true rfl) hS (show fr - 1 + 1 ≤ fr by omega) (Nat.zero_le _) (Nat.zero_le _) (fun v n' h' hP _ => by obtain ⟨e, rfl, hR⟩ := hP; cases e; exact kk h' hR) (fun E n' h' _ z => (rV_nt _ _ _ z).elim)
theorem bX9_search_13 {fr M1 M2 b1 b2 : Nat} {Q : RS → Nat → AH → Prop} {h : AH} {x0 x1 x2 x3 x4 x5 : AV}   (hq : Q (.inl none) 137 h) : Wp mX9_search (kR fr M1 M2) Q (b1, b2) 13 [x0, x1, x2, x3, x4, x5] [] 137 h := by
  refine s_fgt (fgt_n _ (fgt_n _ (fgt_n _ (fgt_n _ (fgt_n _ (fgt_n _ fgt_0)))))) ?_
  exact s_return dX9_search_13 rfl hq (fun z => by cases z)
theorem bX9_search_14 {fr M1 M2 b1 b2 : Nat} {Q : RS → Nat → AH → Prop} {h : AH} {l1 l2 l3 : Int} {x4 x5 : AV}  (r1 : 0 ≤ l1 ∧ l1 < 14 := by omega) (r2 : -2147483648 ≤ l1 + 1 ∧ l1 + 1 < 2147483648 := by omega) (r3 : -2147483648 ≤ h 88 4 ∧ h 88 4 < 2147483648 := by omega) (kt : h 88 4 ≤ l1 + 1 → Wp mX9_search (kR fr M1 M2) Q (b1, b2) 43 [zR 88, zI l1, zI l2, zI l3, zI (h 91 l1), none] [] 137 h) (kf : l1 + 1 < h 88 4 → Wp mX9_search (kR fr M1 M2) Q (b1, b2) 32 [zR 88, zI l1, zI l2, zI l3, zI (h 91 l1), none] [] 137 h) : Wp mX9_search (kR fr M1 M2) Q (b1, b2) 14 [zR 88, zI l1, zI l2, zI l3, x4, x5] [] 137 h := by
  refine s_fgt (fgt_c (fgt_c (fgt_c (fgt_c (fgt_n _ (fgt_n _ fgt_0)))))) ?_
  refine s_aload_n (x := 88) dX9_search_14 rfl ?_
  refine s_getFd (c := 88) (d := 91) dX9_search_15 lX9_18 e88 (Or.inl rfl) (by decide) (by decide) ?_
  refine s_iload_n (x := l1) dX9_search_18 rfl ?_
  refine s_iald (c := 91) (i := l1) dX9_search_19 e91 r1.1 r1.2 ?_
  refine s_istore dX9_search_20 rfl (by decide) ?_
  refine s_iload_n (x := l1) dX9_search_22 rfl ?_
  refine s_iconst dX9_search_23 ?_
  refine s_iadd dX9_search_24 ?_
  refine s_aload_n (x := 88) dX9_search_25 rfl ?_
  refine s_get (c := 88) dX9_search_26 lX9_47 e88 (by decide) ?_
  exact s_icmp_ge (tgt := 43) dX9_search_29 (by decide) r2 r3 kt kf
theorem bX9_search_32 {fr M1 M2 b1 b2 : Nat} {Q : RS → Nat → AH → Prop} {h : AH} {l1 l2 l3 l4 : Int} {x5 : AV}  (r1 : 0 ≤ l1 + 1 ∧ l1 + 1 < 14 := by omega) (kk : Wp mX9_search (kR fr M1 M2) Q (b1, b2) 45 [zR 88, zI l1, zI l2, zI l3, zI l4, none] [zI (h 91 (l1 + 1))] 137 h) : Wp mX9_search (kR fr M1 M2) Q (b1, b2) 32 [zR 88, zI l1, zI l2, zI l3, zI l4, x5] [] 137 h := by
  refine s_fgt (fgt_c (fgt_c (fgt_c (fgt_c (fgt_c (fgt_n _ fgt_0)))))) ?_
  refine s_aload_n (x := 88) dX9_search_32 rfl ?_
  refine s_getFd (c := 88) (d := 91) dX9_search_33 lX9_18 e88 (Or.inl rfl) (by decide) (by decide) ?_
  refine s_iload_n (x := l1) dX9_search_36 rfl ?_
  refine s_iconst dX9_search_37 ?_
  refine s_iadd dX9_search_38 ?_
  refine s_iald (c := 91) (i := l1 + 1) dX9_search_39 e91 r1.1 r1.2 ?_
  exact s_goto (tgt := 45) dX9_search_40 (by decide) kk
theorem bX9_search_43 {fr M1 M2 b1 b2 : Nat} {Q : RS → Nat → AH → Prop} {h : AH} {l1 l2 l3 l4 : Int} {x5 : AV}   (kk : Wp mX9_search (kR fr M1 M2) Q (b1, b2) 45 [zR 88, zI l1, zI l2, zI l3, zI l4, none] [zI 60] 137 h) : Wp mX9_search (kR fr M1 M2) Q (b1, b2) 43 [zR 88, zI l1, zI l2, zI l3, zI l4, x5] [] 137 h := by
  refine s_fgt (fgt_c (fgt_c (fgt_c (fgt_c (fgt_c (fgt_n _ fgt_0)))))) ?_
  refine s_bipush dX9_search_43 (by decide) ?_
  exact kk
theorem bX9_search_45 {fr M1 M2 b1 b2 : Nat} {Q : RS → Nat → AH → Prop} {h : AH} {l1 l2 l3 l4 s0 : Int} {x5 : AV} {R : Int → AH → Prop}  (r1 : 0 ≤ l4 ∧ l4 < 60 := by omega) (hS : Sp mX9_isHeardAsTold true (fr - 1) 0 0 [zR 88, zI l4, zI s0, zI l3] 137 (up h 90 l4 0) (rI R)) (hf : 1 ≤ fr := by omega) (kk : ∀ (x : Int) (h' : AH), R x h' → Wp mX9_search (kR fr M1 M2) Q (b1, b2) 64 [zR 88, zI l1, zI l2, zI l3, zI l4, zI s0] [zI x] 137 h') : Wp mX9_search (kR fr M1 M2) Q (b1, b2) 45 [zR 88, zI l1, zI l2, zI l3, zI l4, x5] [zI s0] 137 h := by
  refine s_fgt (fgt_c (fgt_c (fgt_c (fgt_c (fgt_c (fgt_n _ fgt_0)))))) ?_
  refine s_istore dX9_search_45 rfl (by decide) ?_
  refine s_aload_n (x := 88) dX9_search_47 rfl ?_
  refine s_getFd (c := 88) (d := 90) dX9_search_48 lX9_15 e88 (Or.inl rfl) (by decide) (by decide) ?_
  refine s_iload (x := l4) dX9_search_51 rfl ?_
  refine s_iconst dX9_search_53 ?_
  refine s_iast (c := 90) (i := l4) dX9_search_54 e90 r1.1 r1.2 ?_
  refine s_aload_n (x := 88) dX9_search_55 rfl ?_
  refine s_iload (x := l4) dX9_search_56 rfl ?_
  refine s_iload (x := s0) dX9_search_58 rfl ?_
  refine s_iload_n (x := l3) dX9_search_60 rfl ?_
  exact s_callV (as := [zI l4, zI s0, zI l3]) (st := []) (o := 88) dX9_search_61 kX9_56 rfl ⟨9, 9, TX9, e88, rfl, by decide⟩ rfl rfl (Nat.le_of_ble_eq_true rfl) hS (show fr - 1 + 1 ≤ fr by omega) (Nat.zero_le _) (Nat.zero_le _) (fun v n' h' hP _ => by obtain ⟨x, e, rfl, hR⟩ := hP; cases e; exact kk x h' hR) (fun E n' h' _ z => (rI_nt _ _ _ z).elim)
theorem bX9_search_64 {fr M1 M2 b1 b2 : Nat} {Q : RS → Nat → AH → Prop} {h : AH} {l1 l2 l3 l4 l5 s0 : Int}  (r1 : -2147483648 ≤ s0 ∧ s0 < 2147483648 := by omega) (kt : s0 = 0 → Wp mX9_search (kR fr M1 M2) Q (b1, b2) 76 [zR 88, zI l1, zI l2, zI l3, zI l4, zI l5] [] 137 h) (kf : ¬ s0 = 0 → Wp mX9_search (kR fr M1 M2) Q (b1, b2) 67 [zR 88, zI l1, zI l2, zI l3, zI l4, zI l5] [] 137 h) : Wp mX9_search (kR fr M1 M2) Q (b1, b2) 64 [zR 88, zI l1, zI l2, zI l3, zI l4, zI l5] [zI s0] 137 h := by
  exact s_if_eq (tgt := 76) dX9_search_64 (by decide) r1 kt kf
theorem bX9_search_67 {fr M1 M2 b1 b2 : Nat} {Q : RS → Nat → AH → Prop} {h : AH} {l1 l2 l3 l4 l5 : Int} {R : AH → Prop}   (hS : Sp mX9_search true (fr - 1) 0 0 [zR 88, zI (l1 + 1), zI l2, zI l3] 137 h (rV R)) (hf : 1 ≤ fr := by omega) (kk : ∀ h' : AH, R h' → Wp mX9_search (kR fr M1 M2) Q (b1, b2) 76 [zR 88, zI l1, zI l2, zI l3, zI l4, zI l5] [] 137 h') : Wp mX9_search (kR fr M1 M2) Q (b1, b2) 67 [zR 88, zI l1, zI l2, zI l3, zI l4, zI l5] [] 137 h := by
  refine s_aload_n (x := 88) dX9_search_67 rfl ?_
  refine s_iload_n (x := l1) dX9_search_68 rfl ?_
  refine s_iconst dX9_search_69 ?_
  refine s_iadd dX9_search_70 ?_
  refine s_iload_n (x := l2) dX9_search_71 rfl ?_
  refine s_iload_n (x := l3) dX9_search_72 rfl ?_
  exact s_callV (as := [zI (l1 + 1), zI l2, zI l3]) (st := []) (o := 88) dX9_search_73 kX9_60 rfl ⟨9, 9, TX9, e88, rfl, by decide⟩ rfl rfl (Nat.le_of_ble_eq_true rfl) hS (show fr - 1 + 1 ≤ fr by omega) (Nat.zero_le _) (Nat.zero_le _) (fun v n' h' hP _ => by obtain ⟨e, rfl, hR⟩ := hP; cases e; exact kk h' hR) (fun E n' h' _ z => (rV_nt _ _ _ z).elim)
theorem bX9_search_76 {fr M1 M2 b1 b2 : Nat} {Q : RS → Nat → AH → Prop} {h : AH} {l1 l2 l4 l5 : Int} {x3 : AV} {R : Int → AH → Prop} (c1 : cel 137 (h 88 6) (8, 8) := by first | assumption | omega) (r1 : 0 ≤ l4 ∧ l4 < 60 := by omega) (r2 : 1 ≤ fr := by omega) (r3 : -2147483648 ≤ h ((h 88 6) + 2) l4 ∧ h ((h 88 6) + 2) l4 < 2147483648 := by omega) (r4 : 0 ≤ max 0 (h ((h 88 6) + 2) l4) ∧ max 0 (h ((h 88 6) + 2) l4) < 32 := by omega) (hS : Sp mX9_isHeardAsTold true (fr - 1) 0 0 [zR 88, zI l4, zI l5, zI l4] 137 (up h 90 l4 (1 * 2 ^ (max 0 (h ((h 88 6) + 2) l4)).toNat)) (rI R)) (hf : 1 ≤ fr := by omega) (kk : ∀ (x : Int) (h' : AH), R x h' → Wp mX9_search (kR fr M1 M2) Q (b1, b2) 109 [zR 88, zI l1, zI l2, none, zI l4, zI l5] [zI x] 137 h') : Wp mX9_search (kR fr M1 M2) Q (b1, b2) 76 [zR 88, zI l1, zI l2, x3, zI l4, zI l5] [] 137 h := by
  refine s_fgt (fgt_c (fgt_c (fgt_c (fgt_n _ (fgt_c (fgt_c fgt_0)))))) ?_
  refine s_aload_n (x := 88) dX9_search_76 rfl ?_
  refine s_getFd (c := 88) (d := 90) dX9_search_77 lX9_15 e88 (Or.inl rfl) (by decide) (by decide) ?_
  refine s_iload (x := l4) dX9_search_80 rfl ?_
  refine s_iconst dX9_search_82 ?_
  refine s_iconst dX9_search_83 ?_
  refine s_aload_n (x := 88) dX9_search_84 rfl ?_
  refine s_getR (c := 88) dX9_search_85 lX9_29 e88 rfl ?_
  refine s_getFd (c := h 88 6) (d := (h 88 6) + 2) dX9_search_88 lX9_51 c1 (Or.inl rfl) rfl (ne0 (fin_X8_2 c1)) ?_
  refine s_iload (x := l4) dX9_search_91 rfl ?_
  refine s_iald (c := (h 88 6) + 2) (i := l4) dX9_search_93 (fin_X8_2 c1) r1.1 r1.2 ?_
  refine s_mmax dX9_search_94 wd1220 wd953 wd19 wd954 r2 (Nat.le_of_ble_eq_true rfl) ⟨by decide, by decide⟩ r3 ?_
  refine s_ishlN dX9_search_97 r4.1 r4.2 ?_
  refine s_iast (c := 90) (i := l4) dX9_search_98 e90 r1.1 r1.2 ?_
  refine s_aload_n (x := 88) dX9_search_99 rfl ?_
  refine s_iload (x := l4) dX9_search_100 rfl ?_
  refine s_iload (x := l5) dX9_search_102 rfl ?_
  refine s_iload (x := l4) dX9_search_104 rfl ?_
  exact s_callV (as := [zI l4, zI l5, zI l4]) (st := []) (o := 88) dX9_search_106 kX9_56 rfl ⟨9, 9, TX9, e88, rfl, by decide⟩ rfl rfl (Nat.le_of_ble_eq_true rfl) hS (show fr - 1 + 1 ≤ fr by omega) (Nat.zero_le _) (Nat.zero_le _) (fun v n' h' hP _ => by obtain ⟨x, e, rfl, hR⟩ := hP; cases e; exact kk x h' hR) (fun E n' h' _ z => (rI_nt _ _ _ z).elim)
theorem bX9_search_109 {fr M1 M2 b1 b2 : Nat} {Q : RS → Nat → AH → Prop} {h : AH} {l1 l2 l4 s0 : Int} {x3 x5 : AV}  (r1 : -2147483648 ≤ s0 ∧ s0 < 2147483648 := by omega) (kt : s0 = 0 → Wp mX9_search (kR fr M1 M2) Q (b1, b2) 126 [zR 88, zI l1, zI l2, none, zI l4, none] [] 137 h) (kf : ¬ s0 = 0 → Wp mX9_search (kR fr M1 M2) Q (b1, b2) 112 [zR 88, zI l1, zI l2, none, zI l4, none] [] 137 h) : Wp mX9_search (kR fr M1 M2) Q (b1, b2) 109 [zR 88, zI l1, zI l2, x3, zI l4, x5] [zI s0] 137 h := by
  refine s_fgt (fgt_c (fgt_c (fgt_c (fgt_n _ (fgt_c (fgt_n _ fgt_0)))))) ?_
  exact s_if_eq (tgt := 126) dX9_search_109 (by decide) r1 kt kf
theorem bX9_search_112 {fr M1 M2 b1 b2 : Nat} {Q : RS → Nat → AH → Prop} {h : AH} {l1 l2 l4 : Int} {x3 x5 : AV} {R : AH → Prop}  (r1 : 0 ≤ l1 ∧ l1 < 32 := by omega) (hS : Sp mX9_search true (fr - 1) 0 0 [zR 88, zI (l1 + 1), zI (bOr l2 (1 * 2 ^ l1.toNat)), zI l4] 137 h (rV R)) (hf : 1 ≤ fr := by omega) (kk : ∀ h' : AH, R h' → Wp mX9_search (kR fr M1 M2) Q (b1, b2) 126 [zR 88, zI l1, zI l2, none, zI l4, none] [] 137 h') : Wp mX9_search (kR fr M1 M2) Q (b1, b2) 112 [zR 88, zI l1, zI l2, x3, zI l4, x5] [] 137 h := by
  refine s_fgt (fgt_c (fgt_c (fgt_c (fgt_n _ (fgt_c (fgt_n _ fgt_0)))))) ?_
  refine s_aload_n (x := 88) dX9_search_112 rfl ?_
  refine s_iload_n (x := l1) dX9_search_113 rfl ?_
  refine s_iconst dX9_search_114 ?_
  refine s_iadd dX9_search_115 ?_
  refine s_iload_n (x := l2) dX9_search_116 rfl ?_
  refine s_iconst dX9_search_117 ?_
  refine s_iload_n (x := l1) dX9_search_118 rfl ?_
  refine s_ishlN dX9_search_119 r1.1 r1.2 ?_
  refine s_ior dX9_search_120 ?_
  refine s_iload (x := l4) dX9_search_121 rfl ?_
  exact s_callV (as := [zI (l1 + 1), zI (bOr l2 (1 * 2 ^ l1.toNat)), zI l4]) (st := []) (o := 88) dX9_search_123 kX9_60 rfl ⟨9, 9, TX9, e88, rfl, by decide⟩ rfl rfl (Nat.le_of_ble_eq_true rfl) hS (show fr - 1 + 1 ≤ fr by omega) (Nat.zero_le _) (Nat.zero_le _) (fun v n' h' hP _ => by obtain ⟨e, rfl, hR⟩ := hP; cases e; exact kk h' hR) (fun E n' h' _ z => (rV_nt _ _ _ z).elim)
theorem bX9_search_126 {fr M1 M2 b1 b2 : Nat} {Q : RS → Nat → AH → Prop} {h : AH} {x0 x1 x2 x3 x4 x5 : AV}   (hq : Q (.inl none) 137 h) : Wp mX9_search (kR fr M1 M2) Q (b1, b2) 126 [x0, x1, x2, x3, x4, x5] [] 137 h := by
  refine s_fgt (fgt_n _ (fgt_n _ (fgt_n _ (fgt_n _ (fgt_n _ (fgt_n _ fgt_0)))))) ?_
  exact s_return dX9_search_126 rfl hq (fun z => by cases z)
theorem dX9_isHeardAsTold_0 : decode mX9_isHeardAsTold.cd 0 = .ok (.aload_n 0, 1) := by decide +kernel
theorem dX9_isHeardAsTold_1 : decode mX9_isHeardAsTold.cd 1 = .ok (.getfield 33, 3) := by decide +kernel
theorem dX9_isHeardAsTold_4 : decode mX9_isHeardAsTold.cd 4 = .ok (.aload_n 0, 1) := by decide +kernel
theorem dX9_isHeardAsTold_5 : decode mX9_isHeardAsTold.cd 5 = .ok (.getfield 25, 3) := by decide +kernel
theorem dX9_isHeardAsTold_8 : decode mX9_isHeardAsTold.cd 8 = .ok (.aload_n 0, 1) := by decide +kernel
theorem dX9_isHeardAsTold_9 : decode mX9_isHeardAsTold.cd 9 = .ok (.getfield 37, 3) := by decide +kernel
theorem dX9_isHeardAsTold_12 : decode mX9_isHeardAsTold.cd 12 = .ok (.aload_n 0, 1) := by decide +kernel
theorem dX9_isHeardAsTold_13 : decode mX9_isHeardAsTold.cd 13 = .ok (.getfield 15, 3) := by decide +kernel
theorem dX9_isHeardAsTold_16 : decode mX9_isHeardAsTold.cd 16 = .ok (.iload_n 3, 1) := by decide +kernel
theorem dX9_isHeardAsTold_17 : decode mX9_isHeardAsTold.cd 17 = .ok (.invokevirtual 74, 3) := by decide +kernel
theorem dX9_isHeardAsTold_20 : decode mX9_isHeardAsTold.cd 20 = .ok (.iload_n 1, 1) := by decide +kernel
theorem dX9_isHeardAsTold_21 : decode mX9_isHeardAsTold.cd 21 = .ok (.istore 4, 2) := by decide +kernel
theorem dX9_isHeardAsTold_23 : decode mX9_isHeardAsTold.cd 23 = .ok (.iload 4, 2) := by decide +kernel
theorem dX9_isHeardAsTold_25 : decode mX9_isHeardAsTold.cd 25 = .ok (.iload_n 2, 1) := by decide +kernel
theorem dX9_isHeardAsTold_26 : decode mX9_isHeardAsTold.cd 26 = .ok (.if_icmp .ge 42, 3) := by decide +kernel
theorem dX9_isHeardAsTold_29 : decode mX9_isHeardAsTold.cd 29 = .ok (.aload_n 0, 1) := by decide +kernel
theorem dX9_isHeardAsTold_30 : decode mX9_isHeardAsTold.cd 30 = .ok (.getfield 33, 3) := by decide +kernel
theorem dX9_isHeardAsTold_33 : decode mX9_isHeardAsTold.cd 33 = .ok (.iload 4, 2) := by decide +kernel
theorem dX9_isHeardAsTold_35 : decode mX9_isHeardAsTold.cd 35 = .ok (.invokevirtual 80, 3) := by decide +kernel
theorem dX9_isHeardAsTold_38 : decode mX9_isHeardAsTold.cd 38 = .ok (.aload_n 0, 1) := by decide +kernel
theorem dX9_isHeardAsTold_39 : decode mX9_isHeardAsTold.cd 39 = .ok (.getfield 33, 3) := by decide +kernel
theorem dX9_isHeardAsTold_42 : decode mX9_isHeardAsTold.cd 42 = .ok (.iload 4, 2) := by decide +kernel
theorem dX9_isHeardAsTold_44 : decode mX9_isHeardAsTold.cd 44 = .ok (.invokevirtual 83, 3) := by decide +kernel
theorem dX9_isHeardAsTold_47 : decode mX9_isHeardAsTold.cd 47 = .ok (.aload_n 0, 1) := by decide +kernel
theorem dX9_isHeardAsTold_48 : decode mX9_isHeardAsTold.cd 48 = .ok (.getfield 29, 3) := by decide +kernel
theorem dX9_isHeardAsTold_51 : decode mX9_isHeardAsTold.cd 51 = .ok (.getfield 51, 3) := by decide +kernel
theorem dX9_isHeardAsTold_54 : decode mX9_isHeardAsTold.cd 54 = .ok (.iload 4, 2) := by decide +kernel
theorem dX9_isHeardAsTold_56 : decode mX9_isHeardAsTold.cd 56 = .ok (.iaload, 1) := by decide +kernel
theorem dX9_isHeardAsTold_57 : decode mX9_isHeardAsTold.cd 57 = .ok (.if_icmp .eq 5, 3) := by decide +kernel
theorem dX9_isHeardAsTold_60 : decode mX9_isHeardAsTold.cd 60 = .ok (.iconst 0, 1) := by decide +kernel
theorem dX9_isHeardAsTold_61 : decode mX9_isHeardAsTold.cd 61 = .ok (.ireturn, 1) := by decide +kernel
theorem dX9_isHeardAsTold_62 : decode mX9_isHeardAsTold.cd 62 = .ok (.iinc 4 1, 3) := by decide +kernel
theorem dX9_isHeardAsTold_65 : decode mX9_isHeardAsTold.cd 65 = .ok (.goto (-42), 3) := by decide +kernel
theorem dX9_isHeardAsTold_68 : decode mX9_isHeardAsTold.cd 68 = .ok (.iconst 1, 1) := by decide +kernel
theorem dX9_isHeardAsTold_69 : decode mX9_isHeardAsTold.cd 69 = .ok (.ireturn, 1) := by decide +kernel
theorem bX9_isHeardAsTold_0 {fr M1 M2 b1 b2 : Nat} {Q : RS → Nat → AH → Prop} {h : AH} {l1 l2 l3 : Int} {x4 : AV} {R : AH → Prop} (c1 : cel 137 (h 88 7) (4, 9) := by first | assumption | omega)  (hS : Sp mX4_attend true (fr - 1) 0 0 [zR (h 88 7), zR (h 88 5), zR (h 88 8), zR 90, zI l3] 137 h (rV R)) (hf : 1 ≤ fr := by omega) (kk : ∀ h' : AH, R h' → Wp mX9_isHeardAsTold (kR fr M1 M2) Q (b1, b2) 20 [zR 88, zI l1, zI l2, zI l3, none] [] 137 h') : Wp mX9_isHeardAsTold (kR fr M1 M2) Q (b1, b2) 0 [zR 88, zI l1, zI l2, zI l3, x4] [] 137 h := by
  refine s_fgt (fgt_c (fgt_c (fgt_c (fgt_c (fgt_n _ fgt_0))))) ?_
  refine s_aload_n (x := 88) dX9_isHeardAsTold_0 rfl ?_
  refine s_getR (c := 88) dX9_isHeardAsTold_1 lX9_33 e88 rfl ?_
  refine s_aload_n (x := 88) dX9_isHeardAsTold_4 rfl ?_
  refine s_getR (c := 88) dX9_isHeardAsTold_5 lX9_25 e88 rfl ?_
  refine s_aload_n (x := 88) dX9_isHeardAsTold_8 rfl ?_
  refine s_getR (c := 88) dX9_isHeardAsTold_9 lX9_37 e88 rfl ?_
  refine s_aload_n (x := 88) dX9_isHeardAsTold_12 rfl ?_
  refine s_getFd (c := 88) (d := 90) dX9_isHeardAsTold_13 lX9_15 e88 (Or.inl rfl) (by decide) (by decide) ?_
  refine s_iload_n (x := l3) dX9_isHeardAsTold_16 rfl ?_
  exact s_callV (as := [zR (h 88 5), zR (h 88 8), zR 90, zI l3]) (st := []) (o := h 88 7) dX9_isHeardAsTold_17 kX9_74 rfl ⟨4, 9, TX4, c1, rfl, by decide⟩ rfl rfl (Nat.le_of_ble_eq_true rfl) hS (show fr - 1 + 1 ≤ fr by omega) (Nat.zero_le _) (Nat.zero_le _) (fun v n' h' hP _ => by obtain ⟨e, rfl, hR⟩ := hP; cases e; exact kk h' hR) (fun E n' h' _ z => (rV_nt _ _ _ z).elim)
theorem bX9_isHeardAsTold_20 {fr M1 M2 b1 b2 : Nat} {Q : RS → Nat → AH → Prop} {h : AH} {l1 l2 : Int} {x3 x4 : AV}   (kk : Wp mX9_isHeardAsTold (kR fr M1 M2) Q (b1, b2) 23 [zR 88, zI l1, zI l2, none, zI l1] [] 137 h) : Wp mX9_isHeardAsTold (kR fr M1 M2) Q (b1, b2) 20 [zR 88, zI l1, zI l2, x3, x4] [] 137 h := by
  refine s_fgt (fgt_c (fgt_c (fgt_c (fgt_n _ (fgt_n _ fgt_0))))) ?_
  refine s_iload_n (x := l1) dX9_isHeardAsTold_20 rfl ?_
  refine s_istore dX9_isHeardAsTold_21 rfl (by decide) ?_
  exact kk
theorem bX9_isHeardAsTold_23 {fr M1 M2 b1 b2 : Nat} {Q : RS → Nat → AH → Prop} {h : AH} {l2 l4 : Int} {x1 x3 : AV}  (r1 : -2147483648 ≤ l4 ∧ l4 < 2147483648 := by omega) (r2 : -2147483648 ≤ l2 ∧ l2 < 2147483648 := by omega) (kt : l2 ≤ l4 → Wp mX9_isHeardAsTold (kR fr M1 M2) Q (b1, b2) 68 [zR 88, none, zI l2, none, zI l4] [] 137 h) (kf : l4 < l2 → Wp mX9_isHeardAsTold (kR fr M1 M2) Q (b1, b2) 29 [zR 88, none, zI l2, none, zI l4] [] 137 h) : Wp mX9_isHeardAsTold (kR fr M1 M2) Q (b1, b2) 23 [zR 88, x1, zI l2, x3, zI l4] [] 137 h := by
  refine s_fgt (fgt_c (fgt_n _ (fgt_c (fgt_n _ (fgt_c fgt_0))))) ?_
  refine s_iload (x := l4) dX9_isHeardAsTold_23 rfl ?_
  refine s_iload_n (x := l2) dX9_isHeardAsTold_25 rfl ?_
  exact s_icmp_ge (tgt := 68) dX9_isHeardAsTold_26 (by decide) r1 r2 kt kf
theorem bX9_isHeardAsTold_29 {fr M1 M2 b1 b2 : Nat} {Q : RS → Nat → AH → Prop} {h : AH} {l2 l4 : Int} {x1 x3 : AV} {R : AH → Prop} (c1 : cel 137 (h 88 7) (4, 9) := by first | assumption | omega)  (hS : Sp mX4_measure true (fr - 1) 0 0 [zR (h 88 7), zI l4] 137 h (rV R)) (hf : 1 ≤ fr := by omega) (kk : ∀ h' : AH, R h' → Wp mX9_isHeardAsTold (kR fr M1 M2) Q (b1, b2) 38 [zR 88, none, zI l2, none, zI l4] [] 137 h') : Wp mX9_isHeardAsTold (kR fr M1 M2) Q (b1, b2) 29 [zR 88, x1, zI l2, x3, zI l4] [] 137 h := by
  refine s_fgt (fgt_c (fgt_n _ (fgt_c (fgt_n _ (fgt_c fgt_0))))) ?_
  refine s_aload_n (x := 88) dX9_isHeardAsTold_29 rfl ?_
  refine s_getR (c := 88) dX9_isHeardAsTold_30 lX9_33 e88 rfl ?_
  refine s_iload (x := l4) dX9_isHeardAsTold_33 rfl ?_
  exact s_callV (as := [zI l4]) (st := []) (o := h 88 7) dX9_isHeardAsTold_35 kX9_80 rfl ⟨4, 9, TX4, c1, rfl, by decide⟩ rfl rfl (Nat.le_of_ble_eq_true rfl) hS (show fr - 1 + 1 ≤ fr by omega) (Nat.zero_le _) (Nat.zero_le _) (fun v n' h' hP _ => by obtain ⟨e, rfl, hR⟩ := hP; cases e; exact kk h' hR) (fun E n' h' _ z => (rV_nt _ _ _ z).elim)
theorem bX9_isHeardAsTold_38 {fr M1 M2 b1 b2 : Nat} {Q : RS → Nat → AH → Prop} {h : AH} {l2 l4 : Int} {x1 x3 : AV} {R : Int → AH → Prop} (c1 : cel 137 (h 88 7) (4, 9) := by first | assumption | omega)  (hS : Sp mX4_hears true (fr - 1) 0 0 [zR (h 88 7), zI l4] 137 h (rI R)) (hf : 1 ≤ fr := by omega) (kk : ∀ (x : Int) (h' : AH), R x h' → Wp mX9_isHeardAsTold (kR fr M1 M2) Q (b1, b2) 47 [zR 88, none, zI l2, none, zI l4] [zI x] 137 h') : Wp mX9_isHeardAsTold (kR fr M1 M2) Q (b1, b2) 38 [zR 88, x1, zI l2, x3, zI l4] [] 137 h := by
  refine s_fgt (fgt_c (fgt_n _ (fgt_c (fgt_n _ (fgt_c fgt_0))))) ?_
  refine s_aload_n (x := 88) dX9_isHeardAsTold_38 rfl ?_
  refine s_getR (c := 88) dX9_isHeardAsTold_39 lX9_33 e88 rfl ?_
  refine s_iload (x := l4) dX9_isHeardAsTold_42 rfl ?_
  exact s_callV (as := [zI l4]) (st := []) (o := h 88 7) dX9_isHeardAsTold_44 kX9_83 rfl ⟨4, 9, TX4, c1, rfl, by decide⟩ rfl rfl (Nat.le_of_ble_eq_true rfl) hS (show fr - 1 + 1 ≤ fr by omega) (Nat.zero_le _) (Nat.zero_le _) (fun v n' h' hP _ => by obtain ⟨x, e, rfl, hR⟩ := hP; cases e; exact kk x h' hR) (fun E n' h' _ z => (rI_nt _ _ _ z).elim)
theorem bX9_isHeardAsTold_47 {fr M1 M2 b1 b2 : Nat} {Q : RS → Nat → AH → Prop} {h : AH} {l2 l4 s0 : Int} {x1 x3 : AV} (c1 : cel 137 (h 88 6) (8, 8) := by first | assumption | omega) (r1 : 0 ≤ l4 ∧ l4 < 60 := by omega) (r2 : -2147483648 ≤ s0 ∧ s0 < 2147483648 := by omega) (r3 : -2147483648 ≤ h ((h 88 6) + 2) l4 ∧ h ((h 88 6) + 2) l4 < 2147483648 := by omega) (kt : s0 = h ((h 88 6) + 2) l4 → Wp mX9_isHeardAsTold (kR fr M1 M2) Q (b1, b2) 62 [zR 88, none, zI l2, none, zI l4] [] 137 h) (kf : ¬ s0 = h ((h 88 6) + 2) l4 → Wp mX9_isHeardAsTold (kR fr M1 M2) Q (b1, b2) 60 [zR 88, none, zI l2, none, zI l4] [] 137 h) : Wp mX9_isHeardAsTold (kR fr M1 M2) Q (b1, b2) 47 [zR 88, x1, zI l2, x3, zI l4] [zI s0] 137 h := by
  refine s_fgt (fgt_c (fgt_n _ (fgt_c (fgt_n _ (fgt_c fgt_0))))) ?_
  refine s_aload_n (x := 88) dX9_isHeardAsTold_47 rfl ?_
  refine s_getR (c := 88) dX9_isHeardAsTold_48 lX9_29 e88 rfl ?_
  refine s_getFd (c := h 88 6) (d := (h 88 6) + 2) dX9_isHeardAsTold_51 lX9_51 c1 (Or.inl rfl) rfl (ne0 (fin_X8_2 c1)) ?_
  refine s_iload (x := l4) dX9_isHeardAsTold_54 rfl ?_
  refine s_iald (c := (h 88 6) + 2) (i := l4) dX9_isHeardAsTold_56 (fin_X8_2 c1) r1.1 r1.2 ?_
  exact s_icmp_eq (tgt := 62) dX9_isHeardAsTold_57 (by decide) r2 r3 kt kf
theorem bX9_isHeardAsTold_60 {fr M1 M2 b1 b2 : Nat} {Q : RS → Nat → AH → Prop} {h : AH} {x0 x1 x2 x3 x4 : AV}   (hq : Q (.inl (some (zI 0))) 137 h) : Wp mX9_isHeardAsTold (kR fr M1 M2) Q (b1, b2) 60 [x0, x1, x2, x3, x4] [] 137 h := by
  refine s_fgt (fgt_n _ (fgt_n _ (fgt_n _ (fgt_n _ (fgt_n _ fgt_0))))) ?_
  refine s_iconst dX9_isHeardAsTold_60 ?_
  exact s_ireturn dX9_isHeardAsTold_61 ⟨.boolean, rfl, by decide⟩ hq (fun z => by cases z)
theorem bX9_isHeardAsTold_62 {fr M1 M2 b1 b2 : Nat} {Q : RS → Nat → AH → Prop} {h : AH} {l2 l4 : Int} {x1 x3 : AV}   (kk : Wp mX9_isHeardAsTold (kR fr M1 M2) Q (b1, b2) 23 [zR 88, none, zI l2, none, zI (l4 + 1)] [] 137 h) : Wp mX9_isHeardAsTold (kR fr M1 M2) Q (b1, b2) 62 [zR 88, x1, zI l2, x3, zI l4] [] 137 h := by
  refine s_fgt (fgt_c (fgt_n _ (fgt_c (fgt_n _ (fgt_c fgt_0))))) ?_
  refine s_iinc (x := l4) dX9_isHeardAsTold_62 rfl rfl (by decide) ?_
  exact s_goto (tgt := 23) dX9_isHeardAsTold_65 (by decide) kk
theorem bX9_isHeardAsTold_68 {fr M1 M2 b1 b2 : Nat} {Q : RS → Nat → AH → Prop} {h : AH} {x0 x1 x2 x3 x4 : AV}   (hq : Q (.inl (some (zI 1))) 137 h) : Wp mX9_isHeardAsTold (kR fr M1 M2) Q (b1, b2) 68 [x0, x1, x2, x3, x4] [] 137 h := by
  refine s_fgt (fgt_n _ (fgt_n _ (fgt_n _ (fgt_n _ (fgt_n _ fgt_0))))) ?_
  refine s_iconst dX9_isHeardAsTold_68 ?_
  exact s_ireturn dX9_isHeardAsTold_69 ⟨.boolean, rfl, by decide⟩ hq (fun z => by cases z)
theorem dX9_take_0 : decode mX9_take.cd 0 = .ok (.iload_n 1, 1) := by decide +kernel
theorem dX9_take_1 : decode mX9_take.cd 1 = .ok (.invokestatic 87, 3) := by decide +kernel
theorem dX9_take_4 : decode mX9_take.cd 4 = .ok (.istore_n 2, 1) := by decide +kernel
theorem dX9_take_5 : decode mX9_take.cd 5 = .ok (.aload_n 0, 1) := by decide +kernel
theorem dX9_take_6 : decode mX9_take.cd 6 = .ok (.getfield 9, 3) := by decide +kernel
theorem dX9_take_9 : decode mX9_take.cd 9 = .ok (.iconst 0, 1) := by decide +kernel
theorem dX9_take_10 : decode mX9_take.cd 10 = .ok (.iaload, 1) := by decide +kernel
theorem dX9_take_11 : decode mX9_take.cd 11 = .ok (.ifCond .eq 33, 3) := by decide +kernel
theorem dX9_take_14 : decode mX9_take.cd 14 = .ok (.iload_n 2, 1) := by decide +kernel
theorem dX9_take_15 : decode mX9_take.cd 15 = .ok (.aload_n 0, 1) := by decide +kernel
theorem dX9_take_16 : decode mX9_take.cd 16 = .ok (.getfield 9, 3) := by decide +kernel
theorem dX9_take_19 : decode mX9_take.cd 19 = .ok (.iconst 1, 1) := by decide +kernel
theorem dX9_take_20 : decode mX9_take.cd 20 = .ok (.iaload, 1) := by decide +kernel
theorem dX9_take_21 : decode mX9_take.cd 21 = .ok (.if_icmp .lt 23, 3) := by decide +kernel
theorem dX9_take_24 : decode mX9_take.cd 24 = .ok (.iload_n 2, 1) := by decide +kernel
theorem dX9_take_25 : decode mX9_take.cd 25 = .ok (.aload_n 0, 1) := by decide +kernel
theorem dX9_take_26 : decode mX9_take.cd 26 = .ok (.getfield 9, 3) := by decide +kernel
theorem dX9_take_29 : decode mX9_take.cd 29 = .ok (.iconst 1, 1) := by decide +kernel
theorem dX9_take_30 : decode mX9_take.cd 30 = .ok (.iaload, 1) := by decide +kernel
theorem dX9_take_31 : decode mX9_take.cd 31 = .ok (.if_icmp .ne 27, 3) := by decide +kernel
theorem dX9_take_34 : decode mX9_take.cd 34 = .ok (.iload_n 1, 1) := by decide +kernel
theorem dX9_take_35 : decode mX9_take.cd 35 = .ok (.aload_n 0, 1) := by decide +kernel
theorem dX9_take_36 : decode mX9_take.cd 36 = .ok (.getfield 9, 3) := by decide +kernel
theorem dX9_take_39 : decode mX9_take.cd 39 = .ok (.iconst 2, 1) := by decide +kernel
theorem dX9_take_40 : decode mX9_take.cd 40 = .ok (.iaload, 1) := by decide +kernel
theorem dX9_take_41 : decode mX9_take.cd 41 = .ok (.if_icmp .ge 17, 3) := by decide +kernel
theorem dX9_take_44 : decode mX9_take.cd 44 = .ok (.aload_n 0, 1) := by decide +kernel
theorem dX9_take_45 : decode mX9_take.cd 45 = .ok (.getfield 9, 3) := by decide +kernel
theorem dX9_take_48 : decode mX9_take.cd 48 = .ok (.iconst 1, 1) := by decide +kernel
theorem dX9_take_49 : decode mX9_take.cd 49 = .ok (.iload_n 2, 1) := by decide +kernel
theorem dX9_take_50 : decode mX9_take.cd 50 = .ok (.iastore, 1) := by decide +kernel
theorem dX9_take_51 : decode mX9_take.cd 51 = .ok (.aload_n 0, 1) := by decide +kernel
theorem dX9_take_52 : decode mX9_take.cd 52 = .ok (.getfield 9, 3) := by decide +kernel
theorem dX9_take_55 : decode mX9_take.cd 55 = .ok (.iconst 2, 1) := by decide +kernel
theorem dX9_take_56 : decode mX9_take.cd 56 = .ok (.iload_n 1, 1) := by decide +kernel
theorem dX9_take_57 : decode mX9_take.cd 57 = .ok (.iastore, 1) := by decide +kernel
theorem dX9_take_58 : decode mX9_take.cd 58 = .ok (.aload_n 0, 1) := by decide +kernel
theorem dX9_take_59 : decode mX9_take.cd 59 = .ok (.getfield 9, 3) := by decide +kernel
theorem dX9_take_62 : decode mX9_take.cd 62 = .ok (.iconst 0, 1) := by decide +kernel
theorem dX9_take_63 : decode mX9_take.cd 63 = .ok (.dup2, 1) := by decide +kernel
theorem dX9_take_64 : decode mX9_take.cd 64 = .ok (.iaload, 1) := by decide +kernel
theorem dX9_take_65 : decode mX9_take.cd 65 = .ok (.iconst 1, 1) := by decide +kernel
theorem dX9_take_66 : decode mX9_take.cd 66 = .ok (.iadd, 1) := by decide +kernel
theorem dX9_take_67 : decode mX9_take.cd 67 = .ok (.iastore, 1) := by decide +kernel
theorem dX9_take_68 : decode mX9_take.cd 68 = .ok (.return_, 1) := by decide +kernel
theorem bX9_take_0 {fr M1 M2 b1 b2 : Nat} {Q : RS → Nat → AH → Prop} {h : AH} {l1 : Int} {x2 : AV} {R : Int → AH → Prop}   (hS : Sp mJ6_bitCount_0f7a4 true (fr - 1) 0 0 [zI l1] 137 h (rI R)) (hf : 1 ≤ fr := by omega) (kk : ∀ (x : Int) (h' : AH), R x h' → Wp mX9_take (kR fr M1 M2) Q (b1, b2) 4 [zR 88, zI l1, none] [zI x] 137 h') : Wp mX9_take (kR fr M1 M2) Q (b1, b2) 0 [zR 88, zI l1, x2] [] 137 h := by
  refine s_fgt (fgt_c (fgt_c (fgt_n _ fgt_0))) ?_
  refine s_iload_n (x := l1) dX9_take_0 rfl ?_
  exact s_callS (as := [zI l1]) (st := []) dX9_take_1 kX9_87 rfl rfl (Nat.le_of_ble_eq_true rfl) hS (show fr - 1 + 1 ≤ fr by omega) (Nat.zero_le _) (Nat.zero_le _) (fun v n' h' hP _ => by obtain ⟨x, e, rfl, hR⟩ := hP; cases e; exact kk x h' hR) (fun E n' h' _ z => (rI_nt _ _ _ z).elim)
theorem bX9_take_4 {fr M1 M2 b1 b2 : Nat} {Q : RS → Nat → AH → Prop} {h : AH} {l1 s0 : Int} {x2 : AV}  (r1 : -2147483648 ≤ h 89 0 ∧ h 89 0 < 2147483648 := by omega) (kt : h 89 0 = 0 → Wp mX9_take (kR fr M1 M2) Q (b1, b2) 44 [zR 88, zI l1, zI s0] [] 137 h) (kf : ¬ h 89 0 = 0 → Wp mX9_take (kR fr M1 M2) Q (b1, b2) 14 [zR 88, zI l1, zI s0] [] 137 h) : Wp mX9_take (kR fr M1 M2) Q (b1, b2) 4 [zR 88, zI l1, x2] [zI s0] 137 h := by
  refine s_fgt (fgt_c (fgt_c (fgt_n _ fgt_0))) ?_
  refine s_istore_n dX9_take_4 rfl (by decide) ?_
  refine s_aload_n (x := 88) dX9_take_5 rfl ?_
  refine s_getFd (c := 88) (d := 89) dX9_take_6 lX9_9 e88 (Or.inl rfl) (by decide) (by decide) ?_
  refine s_iconst dX9_take_9 ?_
  refine s_iald (c := 89) (i := 0) dX9_take_10 e89 (by decide) (by decide) ?_
  exact s_if_eq (tgt := 44) dX9_take_11 (by decide) r1 kt kf
theorem bX9_take_14 {fr M1 M2 b1 b2 : Nat} {Q : RS → Nat → AH → Prop} {h : AH} {l1 l2 : Int}  (r1 : -2147483648 ≤ l2 ∧ l2 < 2147483648 := by omega) (r2 : -2147483648 ≤ h 89 1 ∧ h 89 1 < 2147483648 := by omega) (kt : l2 < h 89 1 → Wp mX9_take (kR fr M1 M2) Q (b1, b2) 44 [zR 88, zI l1, zI l2] [] 137 h) (kf : h 89 1 ≤ l2 → Wp mX9_take (kR fr M1 M2) Q (b1, b2) 24 [zR 88, zI l1, zI l2] [] 137 h) : Wp mX9_take (kR fr M1 M2) Q (b1, b2) 14 [zR 88, zI l1, zI l2] [] 137 h := by
  refine s_iload_n (x := l2) dX9_take_14 rfl ?_
  refine s_aload_n (x := 88) dX9_take_15 rfl ?_
  refine s_getFd (c := 88) (d := 89) dX9_take_16 lX9_9 e88 (Or.inl rfl) (by decide) (by decide) ?_
  refine s_iconst dX9_take_19 ?_
  refine s_iald (c := 89) (i := 1) dX9_take_20 e89 (by decide) (by decide) ?_
  exact s_icmp_lt (tgt := 44) dX9_take_21 (by decide) r1 r2 kt kf
theorem bX9_take_24 {fr M1 M2 b1 b2 : Nat} {Q : RS → Nat → AH → Prop} {h : AH} {l1 l2 : Int}  (r1 : -2147483648 ≤ l2 ∧ l2 < 2147483648 := by omega) (r2 : -2147483648 ≤ h 89 1 ∧ h 89 1 < 2147483648 := by omega) (kt : ¬ l2 = h 89 1 → Wp mX9_take (kR fr M1 M2) Q (b1, b2) 58 [zR 88, zI l1, zI l2] [] 137 h) (kf : l2 = h 89 1 → Wp mX9_take (kR fr M1 M2) Q (b1, b2) 34 [zR 88, zI l1, zI l2] [] 137 h) : Wp mX9_take (kR fr M1 M2) Q (b1, b2) 24 [zR 88, zI l1, zI l2] [] 137 h := by
  refine s_iload_n (x := l2) dX9_take_24 rfl ?_
  refine s_aload_n (x := 88) dX9_take_25 rfl ?_
  refine s_getFd (c := 88) (d := 89) dX9_take_26 lX9_9 e88 (Or.inl rfl) (by decide) (by decide) ?_
  refine s_iconst dX9_take_29 ?_
  refine s_iald (c := 89) (i := 1) dX9_take_30 e89 (by decide) (by decide) ?_
  exact s_icmp_ne (tgt := 58) dX9_take_31 (by decide) r1 r2 kt kf
theorem bX9_take_34 {fr M1 M2 b1 b2 : Nat} {Q : RS → Nat → AH → Prop} {h : AH} {l1 l2 : Int}  (r1 : -2147483648 ≤ l1 ∧ l1 < 2147483648 := by omega) (r2 : -2147483648 ≤ h 89 2 ∧ h 89 2 < 2147483648 := by omega) (kt : h 89 2 ≤ l1 → Wp mX9_take (kR fr M1 M2) Q (b1, b2) 58 [zR 88, zI l1, zI l2] [] 137 h) (kf : l1 < h 89 2 → Wp mX9_take (kR fr M1 M2) Q (b1, b2) 44 [zR 88, zI l1, zI l2] [] 137 h) : Wp mX9_take (kR fr M1 M2) Q (b1, b2) 34 [zR 88, zI l1, zI l2] [] 137 h := by
  refine s_iload_n (x := l1) dX9_take_34 rfl ?_
  refine s_aload_n (x := 88) dX9_take_35 rfl ?_
  refine s_getFd (c := 88) (d := 89) dX9_take_36 lX9_9 e88 (Or.inl rfl) (by decide) (by decide) ?_
  refine s_iconst dX9_take_39 ?_
  refine s_iald (c := 89) (i := 2) dX9_take_40 e89 (by decide) (by decide) ?_
  exact s_icmp_ge (tgt := 58) dX9_take_41 (by decide) r1 r2 kt kf
theorem bX9_take_44 {fr M1 M2 b1 b2 : Nat} {Q : RS → Nat → AH → Prop} {h : AH} {l1 l2 : Int}   (kk : Wp mX9_take (kR fr M1 M2) Q (b1, b2) 58 [zR 88, zI l1, zI l2] [] 137 (up (up h 89 1 l2) 89 2 l1)) : Wp mX9_take (kR fr M1 M2) Q (b1, b2) 44 [zR 88, zI l1, zI l2] [] 137 h := by
  refine s_aload_n (x := 88) dX9_take_44 rfl ?_
  refine s_getFd (c := 88) (d := 89) dX9_take_45 lX9_9 e88 (Or.inl rfl) (by decide) (by decide) ?_
  refine s_iconst dX9_take_48 ?_
  refine s_iload_n (x := l2) dX9_take_49 rfl ?_
  refine s_iast (c := 89) (i := 1) dX9_take_50 e89 (by decide) (by decide) ?_
  refine s_aload_n (x := 88) dX9_take_51 rfl ?_
  refine s_getFd (c := 88) (d := 89) dX9_take_52 lX9_9 e88 (Or.inl rfl) (by decide) (by decide) ?_
  refine s_iconst dX9_take_55 ?_
  refine s_iload_n (x := l1) dX9_take_56 rfl ?_
  refine s_iast (c := 89) (i := 2) dX9_take_57 e89 (by decide) (by decide) ?_
  exact kk
theorem bX9_take_58 {fr M1 M2 b1 b2 : Nat} {Q : RS → Nat → AH → Prop} {h : AH} {x1 x2 : AV}   (hq : Q (.inl none) 137 (up h 89 0 ((h 89 0) + 1))) : Wp mX9_take (kR fr M1 M2) Q (b1, b2) 58 [zR 88, x1, x2] [] 137 h := by
  refine s_fgt (fgt_c (fgt_n _ (fgt_n _ fgt_0))) ?_
  refine s_aload_n (x := 88) dX9_take_58 rfl ?_
  refine s_getFd (c := 88) (d := 89) dX9_take_59 lX9_9 e88 (Or.inl rfl) (by decide) (by decide) ?_
  refine s_iconst dX9_take_62 ?_
  refine s_dup2 dX9_take_63 rfl rfl ?_
  refine s_iald (c := 89) (i := 0) dX9_take_64 e89 (by decide) (by decide) ?_
  refine s_iconst dX9_take_65 ?_
  refine s_iadd dX9_take_66 ?_
  refine s_iast (c := 89) (i := 0) dX9_take_67 e89 (by decide) (by decide) ?_
  exact s_return dX9_take_68 rfl hq (fun z => by cases z)
