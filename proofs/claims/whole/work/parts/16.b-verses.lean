theorem dX10_adopt_0 : decode mX10_adopt.cd 0 = .ok (.aload_n 0, 1) := by decide +kernel
theorem dX10_adopt_1 : decode mX10_adopt.cd 1 = .ok (.aload_n 1, 1) := by decide +kernel
theorem dX10_adopt_2 : decode mX10_adopt.cd 2 = .ok (.putfield 14, 3) := by decide +kernel
theorem dX10_adopt_5 : decode mX10_adopt.cd 5 = .ok (.aload_n 0, 1) := by decide +kernel
theorem dX10_adopt_6 : decode mX10_adopt.cd 6 = .ok (.getfield 28, 3) := by decide +kernel
theorem dX10_adopt_9 : decode mX10_adopt.cd 9 = .ok (.bipush (-2), 2) := by decide +kernel
theorem dX10_adopt_11 : decode mX10_adopt.cd 11 = .ok (.invokestatic 46, 3) := by decide +kernel
theorem dX10_adopt_14 : decode mX10_adopt.cd 14 = .ok (.aload_n 0, 1) := by decide +kernel
theorem dX10_adopt_15 : decode mX10_adopt.cd 15 = .ok (.getfield 18, 3) := by decide +kernel
theorem dX10_adopt_18 : decode mX10_adopt.cd 18 = .ok (.iconst 0, 1) := by decide +kernel
theorem dX10_adopt_19 : decode mX10_adopt.cd 19 = .ok (.invokestatic 46, 3) := by decide +kernel
theorem dX10_adopt_22 : decode mX10_adopt.cd 22 = .ok (.iconst 0, 1) := by decide +kernel
theorem dX10_adopt_23 : decode mX10_adopt.cd 23 = .ok (.istore_n 2, 1) := by decide +kernel
theorem dX10_adopt_24 : decode mX10_adopt.cd 24 = .ok (.iload_n 2, 1) := by decide +kernel
theorem dX10_adopt_25 : decode mX10_adopt.cd 25 = .ok (.aload_n 0, 1) := by decide +kernel
theorem dX10_adopt_26 : decode mX10_adopt.cd 26 = .ok (.getfield 14, 3) := by decide +kernel
theorem dX10_adopt_29 : decode mX10_adopt.cd 29 = .ok (.getfield 52, 3) := by decide +kernel
theorem dX10_adopt_32 : decode mX10_adopt.cd 32 = .ok (.if_icmp .ge 46, 3) := by decide +kernel
theorem dX10_adopt_35 : decode mX10_adopt.cd 35 = .ok (.aload_n 0, 1) := by decide +kernel
theorem dX10_adopt_36 : decode mX10_adopt.cd 36 = .ok (.getfield 14, 3) := by decide +kernel
theorem dX10_adopt_39 : decode mX10_adopt.cd 39 = .ok (.getfield 56, 3) := by decide +kernel
theorem dX10_adopt_42 : decode mX10_adopt.cd 42 = .ok (.iload_n 2, 1) := by decide +kernel
theorem dX10_adopt_43 : decode mX10_adopt.cd 43 = .ok (.iaload, 1) := by decide +kernel
theorem dX10_adopt_44 : decode mX10_adopt.cd 44 = .ok (.istore_n 3, 1) := by decide +kernel
theorem dX10_adopt_45 : decode mX10_adopt.cd 45 = .ok (.aload_n 0, 1) := by decide +kernel
theorem dX10_adopt_46 : decode mX10_adopt.cd 46 = .ok (.getfield 22, 3) := by decide +kernel
theorem dX10_adopt_49 : decode mX10_adopt.cd 49 = .ok (.iload_n 3, 1) := by decide +kernel
theorem dX10_adopt_50 : decode mX10_adopt.cd 50 = .ok (.bipush 8, 2) := by decide +kernel
theorem dX10_adopt_52 : decode mX10_adopt.cd 52 = .ok (.imul, 1) := by decide +kernel
theorem dX10_adopt_53 : decode mX10_adopt.cd 53 = .ok (.aload_n 0, 1) := by decide +kernel
theorem dX10_adopt_54 : decode mX10_adopt.cd 54 = .ok (.getfield 18, 3) := by decide +kernel
theorem dX10_adopt_57 : decode mX10_adopt.cd 57 = .ok (.iload_n 3, 1) := by decide +kernel
theorem dX10_adopt_58 : decode mX10_adopt.cd 58 = .ok (.iaload, 1) := by decide +kernel
theorem dX10_adopt_59 : decode mX10_adopt.cd 59 = .ok (.iadd, 1) := by decide +kernel
theorem dX10_adopt_60 : decode mX10_adopt.cd 60 = .ok (.iload_n 2, 1) := by decide +kernel
theorem dX10_adopt_61 : decode mX10_adopt.cd 61 = .ok (.iastore, 1) := by decide +kernel
theorem dX10_adopt_62 : decode mX10_adopt.cd 62 = .ok (.aload_n 0, 1) := by decide +kernel
theorem dX10_adopt_63 : decode mX10_adopt.cd 63 = .ok (.getfield 18, 3) := by decide +kernel
theorem dX10_adopt_66 : decode mX10_adopt.cd 66 = .ok (.iload_n 3, 1) := by decide +kernel
theorem dX10_adopt_67 : decode mX10_adopt.cd 67 = .ok (.dup2, 1) := by decide +kernel
theorem dX10_adopt_68 : decode mX10_adopt.cd 68 = .ok (.iaload, 1) := by decide +kernel
theorem dX10_adopt_69 : decode mX10_adopt.cd 69 = .ok (.iconst 1, 1) := by decide +kernel
theorem dX10_adopt_70 : decode mX10_adopt.cd 70 = .ok (.iadd, 1) := by decide +kernel
theorem dX10_adopt_71 : decode mX10_adopt.cd 71 = .ok (.iastore, 1) := by decide +kernel
theorem dX10_adopt_72 : decode mX10_adopt.cd 72 = .ok (.iinc 2 1, 3) := by decide +kernel
theorem dX10_adopt_75 : decode mX10_adopt.cd 75 = .ok (.goto (-51), 3) := by decide +kernel
theorem dX10_adopt_78 : decode mX10_adopt.cd 78 = .ok (.aload_n 0, 1) := by decide +kernel
theorem dX10_adopt_79 : decode mX10_adopt.cd 79 = .ok (.iconst 0, 1) := by decide +kernel
theorem dX10_adopt_80 : decode mX10_adopt.cd 80 = .ok (.putfield 59, 3) := by decide +kernel
theorem dX10_adopt_83 : decode mX10_adopt.cd 83 = .ok (.aload_n 0, 1) := by decide +kernel
theorem dX10_adopt_84 : decode mX10_adopt.cd 84 = .ok (.iconst 0, 1) := by decide +kernel
theorem dX10_adopt_85 : decode mX10_adopt.cd 85 = .ok (.putfield 62, 3) := by decide +kernel
theorem dX10_adopt_88 : decode mX10_adopt.cd 88 = .ok (.aload_n 0, 1) := by decide +kernel
theorem dX10_adopt_89 : decode mX10_adopt.cd 89 = .ok (.iconst 0, 1) := by decide +kernel
theorem dX10_adopt_90 : decode mX10_adopt.cd 90 = .ok (.putfield 65, 3) := by decide +kernel
theorem dX10_adopt_93 : decode mX10_adopt.cd 93 = .ok (.iconst 0, 1) := by decide +kernel
theorem dX10_adopt_94 : decode mX10_adopt.cd 94 = .ok (.istore_n 2, 1) := by decide +kernel
theorem dX10_adopt_95 : decode mX10_adopt.cd 95 = .ok (.iload_n 2, 1) := by decide +kernel
theorem dX10_adopt_96 : decode mX10_adopt.cd 96 = .ok (.aload_n 0, 1) := by decide +kernel
theorem dX10_adopt_97 : decode mX10_adopt.cd 97 = .ok (.getfield 14, 3) := by decide +kernel
theorem dX10_adopt_100 : decode mX10_adopt.cd 100 = .ok (.getfield 68, 3) := by decide +kernel
theorem dX10_adopt_103 : decode mX10_adopt.cd 103 = .ok (.if_icmp .ge 14, 3) := by decide +kernel
theorem dX10_adopt_106 : decode mX10_adopt.cd 106 = .ok (.aload_n 0, 1) := by decide +kernel
theorem dX10_adopt_107 : decode mX10_adopt.cd 107 = .ok (.iload_n 2, 1) := by decide +kernel
theorem dX10_adopt_108 : decode mX10_adopt.cd 108 = .ok (.invokevirtual 71, 3) := by decide +kernel
theorem dX10_adopt_111 : decode mX10_adopt.cd 111 = .ok (.iinc 2 1, 3) := by decide +kernel
theorem dX10_adopt_114 : decode mX10_adopt.cd 114 = .ok (.goto (-19), 3) := by decide +kernel
theorem dX10_adopt_117 : decode mX10_adopt.cd 117 = .ok (.aload_n 0, 1) := by decide +kernel
theorem dX10_adopt_118 : decode mX10_adopt.cd 118 = .ok (.iconst 0, 1) := by decide +kernel
theorem dX10_adopt_119 : decode mX10_adopt.cd 119 = .ok (.putfield 75, 3) := by decide +kernel
theorem dX10_adopt_122 : decode mX10_adopt.cd 122 = .ok (.iconst 1, 1) := by decide +kernel
theorem dX10_adopt_123 : decode mX10_adopt.cd 123 = .ok (.istore_n 2, 1) := by decide +kernel
theorem dX10_adopt_124 : decode mX10_adopt.cd 124 = .ok (.iload_n 2, 1) := by decide +kernel
theorem dX10_adopt_125 : decode mX10_adopt.cd 125 = .ok (.bipush 12, 2) := by decide +kernel
theorem dX10_adopt_127 : decode mX10_adopt.cd 127 = .ok (.if_icmp .gt 25, 3) := by decide +kernel
theorem dX10_adopt_130 : decode mX10_adopt.cd 130 = .ok (.aload_n 0, 1) := by decide +kernel
theorem dX10_adopt_131 : decode mX10_adopt.cd 131 = .ok (.getfield 65, 3) := by decide +kernel
theorem dX10_adopt_134 : decode mX10_adopt.cd 134 = .ok (.iload_n 2, 1) := by decide +kernel
theorem dX10_adopt_135 : decode mX10_adopt.cd 135 = .ok (.ishr, 1) := by decide +kernel
theorem dX10_adopt_136 : decode mX10_adopt.cd 136 = .ok (.iconst 1, 1) := by decide +kernel
theorem dX10_adopt_137 : decode mX10_adopt.cd 137 = .ok (.iand, 1) := by decide +kernel
theorem dX10_adopt_138 : decode mX10_adopt.cd 138 = .ok (.ifCond .eq 8, 3) := by decide +kernel
theorem dX10_adopt_141 : decode mX10_adopt.cd 141 = .ok (.aload_n 0, 1) := by decide +kernel
theorem dX10_adopt_142 : decode mX10_adopt.cd 142 = .ok (.iload_n 2, 1) := by decide +kernel
theorem dX10_adopt_143 : decode mX10_adopt.cd 143 = .ok (.putfield 75, 3) := by decide +kernel
theorem dX10_adopt_146 : decode mX10_adopt.cd 146 = .ok (.iinc 2 1, 3) := by decide +kernel
theorem dX10_adopt_149 : decode mX10_adopt.cd 149 = .ok (.goto (-25), 3) := by decide +kernel
theorem dX10_adopt_152 : decode mX10_adopt.cd 152 = .ok (.return_, 1) := by decide +kernel
theorem bX10_adopt_0 {fr M1 M2 b1 b2 : Nat} {Q : RS → Nat → AH → Prop} {h : AH} {l1 : Int} {x2 x3 : AV} {R : AH → Prop}   (hS : Sp mJ7_fill_53178 true (fr - 1) 0 0 [zR 74, zI (-2)] 137 (up h 55 0 l1) (rV R)) (hf : 1 ≤ fr := by omega) (kk : ∀ h' : AH, R h' → Wp mX10_adopt (kR fr M1 M2) Q (b1, b2) 14 [zR 55, zR l1, none, none] [] 137 h') : Wp mX10_adopt (kR fr M1 M2) Q (b1, b2) 0 [zR 55, zR l1, x2, x3] [] 137 h := by
  refine s_fgt (fgt_c (fgt_c (fgt_n _ (fgt_n _ fgt_0)))) ?_
  refine s_aload_n (x := 55) dX10_adopt_0 rfl ?_
  refine s_aload_n (x := l1) dX10_adopt_1 rfl ?_
  refine s_putR (c := 55) dX10_adopt_2 lX10_14 e55 ?_
  refine s_aload_n (x := 55) dX10_adopt_5 rfl ?_
  refine s_getFd (c := 55) (d := 74) dX10_adopt_6 lX10_28 e55 (Or.inl rfl) (by decide) (by decide) ?_
  refine s_bipush dX10_adopt_9 (by decide) ?_
  exact s_callS (as := [zR 74, zI (-2)]) (st := []) dX10_adopt_11 kX10_46 rfl rfl (Nat.le_of_ble_eq_true rfl) hS (show fr - 1 + 1 ≤ fr by omega) (Nat.zero_le _) (Nat.zero_le _) (fun v n' h' hP _ => by obtain ⟨e, rfl, hR⟩ := hP; cases e; exact kk h' hR) (fun E n' h' _ z => (rV_nt _ _ _ z).elim)
theorem bX10_adopt_14 {fr M1 M2 b1 b2 : Nat} {Q : RS → Nat → AH → Prop} {h : AH} {x1 x2 x3 : AV} {R : AH → Prop}   (hS : Sp mJ7_fill_53178 true (fr - 1) 0 0 [zR 71, zI 0] 137 h (rV R)) (hf : 1 ≤ fr := by omega) (kk : ∀ h' : AH, R h' → Wp mX10_adopt (kR fr M1 M2) Q (b1, b2) 22 [zR 55, none, none, none] [] 137 h') : Wp mX10_adopt (kR fr M1 M2) Q (b1, b2) 14 [zR 55, x1, x2, x3] [] 137 h := by
  refine s_fgt (fgt_c (fgt_n _ (fgt_n _ (fgt_n _ fgt_0)))) ?_
  refine s_aload_n (x := 55) dX10_adopt_14 rfl ?_
  refine s_getFd (c := 55) (d := 71) dX10_adopt_15 lX10_18 e55 (Or.inl rfl) (by decide) (by decide) ?_
  refine s_iconst dX10_adopt_18 ?_
  exact s_callS (as := [zR 71, zI 0]) (st := []) dX10_adopt_19 kX10_46 rfl rfl (Nat.le_of_ble_eq_true rfl) hS (show fr - 1 + 1 ≤ fr by omega) (Nat.zero_le _) (Nat.zero_le _) (fun v n' h' hP _ => by obtain ⟨e, rfl, hR⟩ := hP; cases e; exact kk h' hR) (fun E n' h' _ z => (rV_nt _ _ _ z).elim)
theorem bX10_adopt_22 {fr M1 M2 b1 b2 : Nat} {Q : RS → Nat → AH → Prop} {h : AH} {x1 x2 x3 : AV}   (kk : Wp mX10_adopt (kR fr M1 M2) Q (b1, b2) 24 [zR 55, none, zI 0, none] [] 137 h) : Wp mX10_adopt (kR fr M1 M2) Q (b1, b2) 22 [zR 55, x1, x2, x3] [] 137 h := by
  refine s_fgt (fgt_c (fgt_n _ (fgt_n _ (fgt_n _ fgt_0)))) ?_
  refine s_iconst dX10_adopt_22 ?_
  refine s_istore_n dX10_adopt_23 rfl (by decide) ?_
  exact kk
theorem bX10_adopt_24 {fr M1 M2 b1 b2 : Nat} {Q : RS → Nat → AH → Prop} {h : AH} {l2 : Int} {x1 x3 : AV} (c1 : cel 137 (h 55 0) (2, 21) := by first | assumption | omega) (r1 : -2147483648 ≤ l2 ∧ l2 < 2147483648 := by omega) (r2 : -2147483648 ≤ h (h 55 0) 2 ∧ h (h 55 0) 2 < 2147483648 := by omega) (kt : h (h 55 0) 2 ≤ l2 → Wp mX10_adopt (kR fr M1 M2) Q (b1, b2) 78 [zR 55, none, zI l2, none] [] 137 h) (kf : l2 < h (h 55 0) 2 → Wp mX10_adopt (kR fr M1 M2) Q (b1, b2) 35 [zR 55, none, zI l2, none] [] 137 h) : Wp mX10_adopt (kR fr M1 M2) Q (b1, b2) 24 [zR 55, x1, zI l2, x3] [] 137 h := by
  refine s_fgt (fgt_c (fgt_n _ (fgt_c (fgt_n _ fgt_0)))) ?_
  refine s_iload_n (x := l2) dX10_adopt_24 rfl ?_
  refine s_aload_n (x := 55) dX10_adopt_25 rfl ?_
  refine s_getR (c := 55) dX10_adopt_26 lX10_14 e55 rfl ?_
  refine s_get (c := h 55 0) dX10_adopt_29 lX10_52 c1 (by decide) ?_
  exact s_icmp_ge (tgt := 78) dX10_adopt_32 (by decide) r1 r2 kt kf
theorem bX10_adopt_35 {fr M1 M2 b1 b2 : Nat} {Q : RS → Nat → AH → Prop} {h : AH} {l2 : Int} {x1 x3 : AV} (c1 : cel 137 (h 55 0) (2, 21) := by first | assumption | omega) (r1 : 0 ≤ l2 ∧ l2 < 8 := by omega) (r2 : 0 ≤ h ((h 55 0) + 10) l2 ∧ h ((h 55 0) + 10) l2 < 4 := by omega) (r3 : 0 ≤ ((h ((h 55 0) + 10) l2) * 8) + (h 71 (h ((h 55 0) + 10) l2)) ∧ ((h ((h 55 0) + 10) l2) * 8) + (h 71 (h ((h 55 0) + 10) l2)) < 32 := by omega) (kk : Wp mX10_adopt (kR fr M1 M2) Q (b1, b2) 24 [zR 55, none, zI (l2 + 1), zI (h ((h 55 0) + 10) l2)] [] 137 (up (up h 72 (((h ((h 55 0) + 10) l2) * 8) + (h 71 (h ((h 55 0) + 10) l2))) l2) 71 (h ((h 55 0) + 10) l2) ((h 71 (h ((h 55 0) + 10) l2)) + 1))) : Wp mX10_adopt (kR fr M1 M2) Q (b1, b2) 35 [zR 55, x1, zI l2, x3] [] 137 h := by
  refine s_fgt (fgt_c (fgt_n _ (fgt_c (fgt_n _ fgt_0)))) ?_
  refine s_aload_n (x := 55) dX10_adopt_35 rfl ?_
  refine s_getR (c := 55) dX10_adopt_36 lX10_14 e55 rfl ?_
  refine s_getFd (c := h 55 0) (d := (h 55 0) + 10) dX10_adopt_39 lX10_56 c1 (Or.inl rfl) rfl (ne0 (fin_X2_16 c1)) ?_
  refine s_iload_n (x := l2) dX10_adopt_42 rfl ?_
  refine s_iald (c := (h 55 0) + 10) (i := l2) dX10_adopt_43 (fin_X2_16 c1) r1.1 r1.2 ?_
  refine s_istore_n dX10_adopt_44 rfl (by decide) ?_
  refine s_aload_n (x := 55) dX10_adopt_45 rfl ?_
  refine s_getFd (c := 55) (d := 72) dX10_adopt_46 lX10_22 e55 (Or.inl rfl) (by decide) (by decide) ?_
  refine s_iload_n (x := h ((h 55 0) + 10) l2) dX10_adopt_49 rfl ?_
  refine s_bipush dX10_adopt_50 (by decide) ?_
  refine s_imul dX10_adopt_52 ?_
  refine s_aload_n (x := 55) dX10_adopt_53 rfl ?_
  refine s_getFd (c := 55) (d := 71) dX10_adopt_54 lX10_18 e55 (Or.inl rfl) (by decide) (by decide) ?_
  refine s_iload_n (x := h ((h 55 0) + 10) l2) dX10_adopt_57 rfl ?_
  refine s_iald (c := 71) (i := h ((h 55 0) + 10) l2) dX10_adopt_58 e71 r2.1 r2.2 ?_
  refine s_iadd dX10_adopt_59 ?_
  refine s_iload_n (x := l2) dX10_adopt_60 rfl ?_
  refine s_iast (c := 72) (i := ((h ((h 55 0) + 10) l2) * 8) + (h 71 (h ((h 55 0) + 10) l2))) dX10_adopt_61 e72 r3.1 r3.2 ?_
  refine s_aload_n (x := 55) dX10_adopt_62 rfl ?_
  refine s_getFd (c := 55) (d := 71) dX10_adopt_63 lX10_18 e55 (Or.inl rfl) (by decide) (by decide) ?_
  refine s_iload_n (x := h ((h 55 0) + 10) l2) dX10_adopt_66 rfl ?_
  refine s_dup2 dX10_adopt_67 rfl rfl ?_
  refine s_iald (c := 71) (i := h ((h 55 0) + 10) l2) dX10_adopt_68 e71 r2.1 r2.2 ?_
  refine s_iconst dX10_adopt_69 ?_
  refine s_iadd dX10_adopt_70 ?_
  refine s_iast (c := 71) (i := h ((h 55 0) + 10) l2) dX10_adopt_71 e71 r2.1 r2.2 ?_
  refine s_iinc (x := l2) dX10_adopt_72 rfl rfl (by decide) ?_
  exact s_goto (tgt := 24) dX10_adopt_75 (by decide) kk
theorem bX10_adopt_78 {fr M1 M2 b1 b2 : Nat} {Q : RS → Nat → AH → Prop} {h : AH} {x1 x2 x3 : AV}   (kk : Wp mX10_adopt (kR fr M1 M2) Q (b1, b2) 95 [zR 55, none, zI 0, none] [] 137 (up (up (up h 55 1 0) 55 2 0) 55 3 0)) : Wp mX10_adopt (kR fr M1 M2) Q (b1, b2) 78 [zR 55, x1, x2, x3] [] 137 h := by
  refine s_fgt (fgt_c (fgt_n _ (fgt_n _ (fgt_n _ fgt_0)))) ?_
  refine s_aload_n (x := 55) dX10_adopt_78 rfl ?_
  refine s_iconst dX10_adopt_79 ?_
  refine s_put (c := 55) dX10_adopt_80 lX10_59 e55 ?_
  refine s_aload_n (x := 55) dX10_adopt_83 rfl ?_
  refine s_iconst dX10_adopt_84 ?_
  refine s_put (c := 55) dX10_adopt_85 lX10_62 e55 ?_
  refine s_aload_n (x := 55) dX10_adopt_88 rfl ?_
  refine s_iconst dX10_adopt_89 ?_
  refine s_put (c := 55) dX10_adopt_90 lX10_65 e55 ?_
  refine s_iconst dX10_adopt_93 ?_
  refine s_istore_n dX10_adopt_94 rfl (by decide) ?_
  exact kk
theorem bX10_adopt_95 {fr M1 M2 b1 b2 : Nat} {Q : RS → Nat → AH → Prop} {h : AH} {l2 : Int} {x1 x3 : AV} (c1 : cel 137 (h 55 0) (2, 21) := by first | assumption | omega) (r1 : -2147483648 ≤ l2 ∧ l2 < 2147483648 := by omega) (r2 : -2147483648 ≤ h (h 55 0) 3 ∧ h (h 55 0) 3 < 2147483648 := by omega) (kt : h (h 55 0) 3 ≤ l2 → Wp mX10_adopt (kR fr M1 M2) Q (b1, b2) 117 [zR 55, none, zI l2, none] [] 137 h) (kf : l2 < h (h 55 0) 3 → Wp mX10_adopt (kR fr M1 M2) Q (b1, b2) 106 [zR 55, none, zI l2, none] [] 137 h) : Wp mX10_adopt (kR fr M1 M2) Q (b1, b2) 95 [zR 55, x1, zI l2, x3] [] 137 h := by
  refine s_fgt (fgt_c (fgt_n _ (fgt_c (fgt_n _ fgt_0)))) ?_
  refine s_iload_n (x := l2) dX10_adopt_95 rfl ?_
  refine s_aload_n (x := 55) dX10_adopt_96 rfl ?_
  refine s_getR (c := 55) dX10_adopt_97 lX10_14 e55 rfl ?_
  refine s_get (c := h 55 0) dX10_adopt_100 lX10_68 c1 (by decide) ?_
  exact s_icmp_ge (tgt := 117) dX10_adopt_103 (by decide) r1 r2 kt kf
theorem bX10_adopt_106 {fr M1 M2 b1 b2 : Nat} {Q : RS → Nat → AH → Prop} {h : AH} {l2 : Int} {x1 x3 : AV} {R : AH → Prop}   (hS : Sp mX10_measureForm true (fr - 1) 0 0 [zR 55, zI l2] 137 h (rV R)) (hf : 1 ≤ fr := by omega) (kk : ∀ h' : AH, R h' → Wp mX10_adopt (kR fr M1 M2) Q (b1, b2) 111 [zR 55, none, zI l2, none] [] 137 h') : Wp mX10_adopt (kR fr M1 M2) Q (b1, b2) 106 [zR 55, x1, zI l2, x3] [] 137 h := by
  refine s_fgt (fgt_c (fgt_n _ (fgt_c (fgt_n _ fgt_0)))) ?_
  refine s_aload_n (x := 55) dX10_adopt_106 rfl ?_
  refine s_iload_n (x := l2) dX10_adopt_107 rfl ?_
  exact s_callV (as := [zI l2]) (st := []) (o := 55) dX10_adopt_108 kX10_71 rfl ⟨10, 16, TX10, e55, rfl, by decide⟩ rfl rfl (Nat.le_of_ble_eq_true rfl) hS (show fr - 1 + 1 ≤ fr by omega) (Nat.zero_le _) (Nat.zero_le _) (fun v n' h' hP _ => by obtain ⟨e, rfl, hR⟩ := hP; cases e; exact kk h' hR) (fun E n' h' _ z => (rV_nt _ _ _ z).elim)
theorem bX10_adopt_111 {fr M1 M2 b1 b2 : Nat} {Q : RS → Nat → AH → Prop} {h : AH} {l2 : Int} {x1 x3 : AV}   (kk : Wp mX10_adopt (kR fr M1 M2) Q (b1, b2) 95 [zR 55, none, zI (l2 + 1), none] [] 137 h) : Wp mX10_adopt (kR fr M1 M2) Q (b1, b2) 111 [zR 55, x1, zI l2, x3] [] 137 h := by
  refine s_fgt (fgt_c (fgt_n _ (fgt_c (fgt_n _ fgt_0)))) ?_
  refine s_iinc (x := l2) dX10_adopt_111 rfl rfl (by decide) ?_
  exact s_goto (tgt := 95) dX10_adopt_114 (by decide) kk
theorem bX10_adopt_117 {fr M1 M2 b1 b2 : Nat} {Q : RS → Nat → AH → Prop} {h : AH} {x1 x2 x3 : AV}   (kk : Wp mX10_adopt (kR fr M1 M2) Q (b1, b2) 124 [zR 55, none, zI 1, none] [] 137 (up h 55 4 0)) : Wp mX10_adopt (kR fr M1 M2) Q (b1, b2) 117 [zR 55, x1, x2, x3] [] 137 h := by
  refine s_fgt (fgt_c (fgt_n _ (fgt_n _ (fgt_n _ fgt_0)))) ?_
  refine s_aload_n (x := 55) dX10_adopt_117 rfl ?_
  refine s_iconst dX10_adopt_118 ?_
  refine s_put (c := 55) dX10_adopt_119 lX10_75 e55 ?_
  refine s_iconst dX10_adopt_122 ?_
  refine s_istore_n dX10_adopt_123 rfl (by decide) ?_
  exact kk
theorem bX10_adopt_124 {fr M1 M2 b1 b2 : Nat} {Q : RS → Nat → AH → Prop} {h : AH} {l2 : Int} {x1 x3 : AV}  (r1 : -2147483648 ≤ l2 ∧ l2 < 2147483648 := by omega) (kt : 12 < l2 → Wp mX10_adopt (kR fr M1 M2) Q (b1, b2) 152 [zR 55, none, zI l2, none] [] 137 h) (kf : l2 ≤ 12 → Wp mX10_adopt (kR fr M1 M2) Q (b1, b2) 130 [zR 55, none, zI l2, none] [] 137 h) : Wp mX10_adopt (kR fr M1 M2) Q (b1, b2) 124 [zR 55, x1, zI l2, x3] [] 137 h := by
  refine s_fgt (fgt_c (fgt_n _ (fgt_c (fgt_n _ fgt_0)))) ?_
  refine s_iload_n (x := l2) dX10_adopt_124 rfl ?_
  refine s_bipush dX10_adopt_125 (by decide) ?_
  exact s_icmp_gt (tgt := 152) dX10_adopt_127 (by decide) r1 ⟨by decide, by decide⟩ kt kf
theorem bX10_adopt_130 {fr M1 M2 b1 b2 : Nat} {Q : RS → Nat → AH → Prop} {h : AH} {l2 : Int} {x1 x3 : AV}  (r1 : 0 ≤ l2 ∧ l2 < 32 := by omega) (r2 : -2147483648 ≤ h 55 3 ∧ h 55 3 < 2147483648 := by omega) (r3 : -2147483648 ≤ bAnd ((h 55 3) / 2 ^ l2.toNat) 1 ∧ bAnd ((h 55 3) / 2 ^ l2.toNat) 1 < 2147483648 := by omega) (kt : bAnd ((h 55 3) / 2 ^ l2.toNat) 1 = 0 → Wp mX10_adopt (kR fr M1 M2) Q (b1, b2) 146 [zR 55, none, zI l2, none] [] 137 h) (kf : ¬ bAnd ((h 55 3) / 2 ^ l2.toNat) 1 = 0 → Wp mX10_adopt (kR fr M1 M2) Q (b1, b2) 141 [zR 55, none, zI l2, none] [] 137 h) : Wp mX10_adopt (kR fr M1 M2) Q (b1, b2) 130 [zR 55, x1, zI l2, x3] [] 137 h := by
  refine s_fgt (fgt_c (fgt_n _ (fgt_c (fgt_n _ fgt_0)))) ?_
  refine s_aload_n (x := 55) dX10_adopt_130 rfl ?_
  refine s_get (c := 55) dX10_adopt_131 lX10_65 e55 (by decide) ?_
  refine s_iload_n (x := l2) dX10_adopt_134 rfl ?_
  refine s_ishrN dX10_adopt_135 r2 r1.1 r1.2 ?_
  refine s_iconst dX10_adopt_136 ?_
  refine s_iand dX10_adopt_137 ?_
  exact s_if_eq (tgt := 146) dX10_adopt_138 (by decide) r3 kt kf
theorem bX10_adopt_141 {fr M1 M2 b1 b2 : Nat} {Q : RS → Nat → AH → Prop} {h : AH} {l2 : Int} {x1 x3 : AV}   (kk : Wp mX10_adopt (kR fr M1 M2) Q (b1, b2) 146 [zR 55, none, zI l2, none] [] 137 (up h 55 4 l2)) : Wp mX10_adopt (kR fr M1 M2) Q (b1, b2) 141 [zR 55, x1, zI l2, x3] [] 137 h := by
  refine s_fgt (fgt_c (fgt_n _ (fgt_c (fgt_n _ fgt_0)))) ?_
  refine s_aload_n (x := 55) dX10_adopt_141 rfl ?_
  refine s_iload_n (x := l2) dX10_adopt_142 rfl ?_
  refine s_put (c := 55) dX10_adopt_143 lX10_75 e55 ?_
  exact kk
theorem bX10_adopt_146 {fr M1 M2 b1 b2 : Nat} {Q : RS → Nat → AH → Prop} {h : AH} {l2 : Int} {x1 x3 : AV}   (kk : Wp mX10_adopt (kR fr M1 M2) Q (b1, b2) 124 [zR 55, none, zI (l2 + 1), none] [] 137 h) : Wp mX10_adopt (kR fr M1 M2) Q (b1, b2) 146 [zR 55, x1, zI l2, x3] [] 137 h := by
  refine s_fgt (fgt_c (fgt_n _ (fgt_c (fgt_n _ fgt_0)))) ?_
  refine s_iinc (x := l2) dX10_adopt_146 rfl rfl (by decide) ?_
  exact s_goto (tgt := 124) dX10_adopt_149 (by decide) kk
theorem bX10_adopt_152 {fr M1 M2 b1 b2 : Nat} {Q : RS → Nat → AH → Prop} {h : AH} {x0 x1 x2 x3 : AV}   (hq : Q (.inl none) 137 h) : Wp mX10_adopt (kR fr M1 M2) Q (b1, b2) 152 [x0, x1, x2, x3] [] 137 h := by
  refine s_fgt (fgt_n _ (fgt_n _ (fgt_n _ (fgt_n _ fgt_0)))) ?_
  exact s_return dX10_adopt_152 rfl hq (fun z => by cases z)
theorem dX10_measureForm_0 : decode mX10_measureForm.cd 0 = .ok (.iconst 1, 1) := by decide +kernel
theorem dX10_measureForm_1 : decode mX10_measureForm.cd 1 = .ok (.istore_n 2, 1) := by decide +kernel
theorem dX10_measureForm_2 : decode mX10_measureForm.cd 2 = .ok (.iconst 1, 1) := by decide +kernel
theorem dX10_measureForm_3 : decode mX10_measureForm.cd 3 = .ok (.istore_n 3, 1) := by decide +kernel
theorem dX10_measureForm_4 : decode mX10_measureForm.cd 4 = .ok (.iconst 0, 1) := by decide +kernel
theorem dX10_measureForm_5 : decode mX10_measureForm.cd 5 = .ok (.istore 4, 2) := by decide +kernel
theorem dX10_measureForm_7 : decode mX10_measureForm.cd 7 = .ok (.iload 4, 2) := by decide +kernel
theorem dX10_measureForm_9 : decode mX10_measureForm.cd 9 = .ok (.aload_n 0, 1) := by decide +kernel
theorem dX10_measureForm_10 : decode mX10_measureForm.cd 10 = .ok (.getfield 14, 3) := by decide +kernel
theorem dX10_measureForm_13 : decode mX10_measureForm.cd 13 = .ok (.getfield 78, 3) := by decide +kernel
theorem dX10_measureForm_16 : decode mX10_measureForm.cd 16 = .ok (.iload_n 1, 1) := by decide +kernel
theorem dX10_measureForm_17 : decode mX10_measureForm.cd 17 = .ok (.iaload, 1) := by decide +kernel
theorem dX10_measureForm_18 : decode mX10_measureForm.cd 18 = .ok (.if_icmp .ge 90, 3) := by decide +kernel
theorem dX10_measureForm_21 : decode mX10_measureForm.cd 21 = .ok (.aload_n 0, 1) := by decide +kernel
theorem dX10_measureForm_22 : decode mX10_measureForm.cd 22 = .ok (.getfield 14, 3) := by decide +kernel
theorem dX10_measureForm_25 : decode mX10_measureForm.cd 25 = .ok (.getfield 81, 3) := by decide +kernel
theorem dX10_measureForm_28 : decode mX10_measureForm.cd 28 = .ok (.iload_n 1, 1) := by decide +kernel
theorem dX10_measureForm_29 : decode mX10_measureForm.cd 29 = .ok (.iconst 3, 1) := by decide +kernel
theorem dX10_measureForm_30 : decode mX10_measureForm.cd 30 = .ok (.imul, 1) := by decide +kernel
theorem dX10_measureForm_31 : decode mX10_measureForm.cd 31 = .ok (.iload 4, 2) := by decide +kernel
theorem dX10_measureForm_33 : decode mX10_measureForm.cd 33 = .ok (.iadd, 1) := by decide +kernel
theorem dX10_measureForm_34 : decode mX10_measureForm.cd 34 = .ok (.iaload, 1) := by decide +kernel
theorem dX10_measureForm_35 : decode mX10_measureForm.cd 35 = .ok (.istore 5, 2) := by decide +kernel
theorem dX10_measureForm_37 : decode mX10_measureForm.cd 37 = .ok (.iload_n 2, 1) := by decide +kernel
theorem dX10_measureForm_38 : decode mX10_measureForm.cd 38 = .ok (.aload_n 0, 1) := by decide +kernel
theorem dX10_measureForm_39 : decode mX10_measureForm.cd 39 = .ok (.getfield 18, 3) := by decide +kernel
theorem dX10_measureForm_42 : decode mX10_measureForm.cd 42 = .ok (.iload 5, 2) := by decide +kernel
theorem dX10_measureForm_44 : decode mX10_measureForm.cd 44 = .ok (.iaload, 1) := by decide +kernel
theorem dX10_measureForm_45 : decode mX10_measureForm.cd 45 = .ok (.imul, 1) := by decide +kernel
theorem dX10_measureForm_46 : decode mX10_measureForm.cd 46 = .ok (.istore_n 2, 1) := by decide +kernel
theorem dX10_measureForm_47 : decode mX10_measureForm.cd 47 = .ok (.iconst 0, 1) := by decide +kernel
theorem dX10_measureForm_48 : decode mX10_measureForm.cd 48 = .ok (.istore 6, 2) := by decide +kernel
theorem dX10_measureForm_50 : decode mX10_measureForm.cd 50 = .ok (.iconst 0, 1) := by decide +kernel
theorem dX10_measureForm_51 : decode mX10_measureForm.cd 51 = .ok (.istore 7, 2) := by decide +kernel
theorem dX10_measureForm_53 : decode mX10_measureForm.cd 53 = .ok (.iload 7, 2) := by decide +kernel
theorem dX10_measureForm_55 : decode mX10_measureForm.cd 55 = .ok (.aload_n 0, 1) := by decide +kernel
theorem dX10_measureForm_56 : decode mX10_measureForm.cd 56 = .ok (.getfield 18, 3) := by decide +kernel
theorem dX10_measureForm_59 : decode mX10_measureForm.cd 59 = .ok (.iload 5, 2) := by decide +kernel
theorem dX10_measureForm_61 : decode mX10_measureForm.cd 61 = .ok (.iaload, 1) := by decide +kernel
theorem dX10_measureForm_62 : decode mX10_measureForm.cd 62 = .ok (.if_icmp .ge 37, 3) := by decide +kernel
theorem dX10_measureForm_65 : decode mX10_measureForm.cd 65 = .ok (.iload 6, 2) := by decide +kernel
theorem dX10_measureForm_67 : decode mX10_measureForm.cd 67 = .ok (.iload_n 3, 1) := by decide +kernel
theorem dX10_measureForm_68 : decode mX10_measureForm.cd 68 = .ok (.aload_n 0, 1) := by decide +kernel
theorem dX10_measureForm_69 : decode mX10_measureForm.cd 69 = .ok (.getfield 14, 3) := by decide +kernel
theorem dX10_measureForm_72 : decode mX10_measureForm.cd 72 = .ok (.getfield 84, 3) := by decide +kernel
theorem dX10_measureForm_75 : decode mX10_measureForm.cd 75 = .ok (.aload_n 0, 1) := by decide +kernel
theorem dX10_measureForm_76 : decode mX10_measureForm.cd 76 = .ok (.getfield 22, 3) := by decide +kernel
theorem dX10_measureForm_79 : decode mX10_measureForm.cd 79 = .ok (.iload 5, 2) := by decide +kernel
theorem dX10_measureForm_81 : decode mX10_measureForm.cd 81 = .ok (.bipush 8, 2) := by decide +kernel
theorem dX10_measureForm_83 : decode mX10_measureForm.cd 83 = .ok (.imul, 1) := by decide +kernel
theorem dX10_measureForm_84 : decode mX10_measureForm.cd 84 = .ok (.iload 7, 2) := by decide +kernel
theorem dX10_measureForm_86 : decode mX10_measureForm.cd 86 = .ok (.iadd, 1) := by decide +kernel
theorem dX10_measureForm_87 : decode mX10_measureForm.cd 87 = .ok (.iaload, 1) := by decide +kernel
theorem dX10_measureForm_88 : decode mX10_measureForm.cd 88 = .ok (.iaload, 1) := by decide +kernel
theorem dX10_measureForm_89 : decode mX10_measureForm.cd 89 = .ok (.ishl, 1) := by decide +kernel
theorem dX10_measureForm_90 : decode mX10_measureForm.cd 90 = .ok (.ior, 1) := by decide +kernel
theorem dX10_measureForm_91 : decode mX10_measureForm.cd 91 = .ok (.istore 6, 2) := by decide +kernel
theorem dX10_measureForm_93 : decode mX10_measureForm.cd 93 = .ok (.iinc 7 1, 3) := by decide +kernel
theorem dX10_measureForm_96 : decode mX10_measureForm.cd 96 = .ok (.goto (-43), 3) := by decide +kernel
theorem dX10_measureForm_99 : decode mX10_measureForm.cd 99 = .ok (.iload 6, 2) := by decide +kernel
theorem dX10_measureForm_101 : decode mX10_measureForm.cd 101 = .ok (.istore_n 3, 1) := by decide +kernel
theorem dX10_measureForm_102 : decode mX10_measureForm.cd 102 = .ok (.iinc 4 1, 3) := by decide +kernel
theorem dX10_measureForm_105 : decode mX10_measureForm.cd 105 = .ok (.goto (-98), 3) := by decide +kernel
theorem dX10_measureForm_108 : decode mX10_measureForm.cd 108 = .ok (.aload_n 0, 1) := by decide +kernel
theorem dX10_measureForm_109 : decode mX10_measureForm.cd 109 = .ok (.getfield 25, 3) := by decide +kernel
theorem dX10_measureForm_112 : decode mX10_measureForm.cd 112 = .ok (.iload_n 1, 1) := by decide +kernel
theorem dX10_measureForm_113 : decode mX10_measureForm.cd 113 = .ok (.iload_n 2, 1) := by decide +kernel
theorem dX10_measureForm_114 : decode mX10_measureForm.cd 114 = .ok (.iastore, 1) := by decide +kernel
theorem dX10_measureForm_115 : decode mX10_measureForm.cd 115 = .ok (.aload_n 0, 1) := by decide +kernel
theorem dX10_measureForm_116 : decode mX10_measureForm.cd 116 = .ok (.dup, 1) := by decide +kernel
theorem dX10_measureForm_117 : decode mX10_measureForm.cd 117 = .ok (.getfield 59, 3) := by decide +kernel
theorem dX10_measureForm_120 : decode mX10_measureForm.cd 120 = .ok (.iload_n 2, 1) := by decide +kernel
theorem dX10_measureForm_121 : decode mX10_measureForm.cd 121 = .ok (.iadd, 1) := by decide +kernel
theorem dX10_measureForm_122 : decode mX10_measureForm.cd 122 = .ok (.putfield 59, 3) := by decide +kernel
theorem dX10_measureForm_125 : decode mX10_measureForm.cd 125 = .ok (.aload_n 0, 1) := by decide +kernel
theorem dX10_measureForm_126 : decode mX10_measureForm.cd 126 = .ok (.dup, 1) := by decide +kernel
theorem dX10_measureForm_127 : decode mX10_measureForm.cd 127 = .ok (.getfield 65, 3) := by decide +kernel
theorem dX10_measureForm_130 : decode mX10_measureForm.cd 130 = .ok (.iload_n 3, 1) := by decide +kernel
theorem dX10_measureForm_131 : decode mX10_measureForm.cd 131 = .ok (.ior, 1) := by decide +kernel
theorem dX10_measureForm_132 : decode mX10_measureForm.cd 132 = .ok (.putfield 65, 3) := by decide +kernel
theorem dX10_measureForm_135 : decode mX10_measureForm.cd 135 = .ok (.iload_n 2, 1) := by decide +kernel
theorem dX10_measureForm_136 : decode mX10_measureForm.cd 136 = .ok (.ifCond .le 28, 3) := by decide +kernel
theorem dX10_measureForm_139 : decode mX10_measureForm.cd 139 = .ok (.aload_n 0, 1) := by decide +kernel
theorem dX10_measureForm_140 : decode mX10_measureForm.cd 140 = .ok (.dup, 1) := by decide +kernel
theorem dX10_measureForm_141 : decode mX10_measureForm.cd 141 = .ok (.getfield 62, 3) := by decide +kernel
theorem dX10_measureForm_144 : decode mX10_measureForm.cd 144 = .ok (.aload_n 0, 1) := by decide +kernel
theorem dX10_measureForm_145 : decode mX10_measureForm.cd 145 = .ok (.getfield 18, 3) := by decide +kernel
theorem dX10_measureForm_148 : decode mX10_measureForm.cd 148 = .ok (.aload_n 0, 1) := by decide +kernel
theorem dX10_measureForm_149 : decode mX10_measureForm.cd 149 = .ok (.getfield 14, 3) := by decide +kernel
theorem dX10_measureForm_152 : decode mX10_measureForm.cd 152 = .ok (.getfield 81, 3) := by decide +kernel
theorem dX10_measureForm_155 : decode mX10_measureForm.cd 155 = .ok (.iload_n 1, 1) := by decide +kernel
theorem dX10_measureForm_156 : decode mX10_measureForm.cd 156 = .ok (.iconst 3, 1) := by decide +kernel
theorem dX10_measureForm_157 : decode mX10_measureForm.cd 157 = .ok (.imul, 1) := by decide +kernel
theorem dX10_measureForm_158 : decode mX10_measureForm.cd 158 = .ok (.iaload, 1) := by decide +kernel
theorem dX10_measureForm_159 : decode mX10_measureForm.cd 159 = .ok (.iaload, 1) := by decide +kernel
theorem dX10_measureForm_160 : decode mX10_measureForm.cd 160 = .ok (.iadd, 1) := by decide +kernel
theorem dX10_measureForm_161 : decode mX10_measureForm.cd 161 = .ok (.putfield 62, 3) := by decide +kernel
theorem dX10_measureForm_164 : decode mX10_measureForm.cd 164 = .ok (.return_, 1) := by decide +kernel
theorem bX10_measureForm_0 {fr M1 M2 b1 b2 : Nat} {Q : RS → Nat → AH → Prop} {h : AH} {l1 : Int} {x2 x3 x4 x5 x6 x7 : AV}   (kk : Wp mX10_measureForm (kR fr M1 M2) Q (b1, b2) 7 [zR 55, zI l1, zI 1, zI 1, zI 0, none, none, none] [] 137 h) : Wp mX10_measureForm (kR fr M1 M2) Q (b1, b2) 0 [zR 55, zI l1, x2, x3, x4, x5, x6, x7] [] 137 h := by
  refine s_fgt (fgt_c (fgt_c (fgt_n _ (fgt_n _ (fgt_n _ (fgt_n _ (fgt_n _ (fgt_n _ fgt_0)))))))) ?_
  refine s_iconst dX10_measureForm_0 ?_
  refine s_istore_n dX10_measureForm_1 rfl (by decide) ?_
  refine s_iconst dX10_measureForm_2 ?_
  refine s_istore_n dX10_measureForm_3 rfl (by decide) ?_
  refine s_iconst dX10_measureForm_4 ?_
  refine s_istore dX10_measureForm_5 rfl (by decide) ?_
  exact kk
theorem bX10_measureForm_7 {fr M1 M2 b1 b2 : Nat} {Q : RS → Nat → AH → Prop} {h : AH} {l1 l2 l3 l4 : Int} {x5 x6 x7 : AV} (c1 : cel 137 (h 55 0) (2, 21) := by first | assumption | omega) (r1 : 0 ≤ l1 ∧ l1 < 6 := by omega) (r2 : -2147483648 ≤ l4 ∧ l4 < 2147483648 := by omega) (r3 : -2147483648 ≤ h ((h 55 0) + 13) l1 ∧ h ((h 55 0) + 13) l1 < 2147483648 := by omega) (kt : h ((h 55 0) + 13) l1 ≤ l4 → Wp mX10_measureForm (kR fr M1 M2) Q (b1, b2) 108 [zR 55, zI l1, zI l2, zI l3, zI l4, none, none, none] [] 137 h) (kf : l4 < h ((h 55 0) + 13) l1 → Wp mX10_measureForm (kR fr M1 M2) Q (b1, b2) 21 [zR 55, zI l1, zI l2, zI l3, zI l4, none, none, none] [] 137 h) : Wp mX10_measureForm (kR fr M1 M2) Q (b1, b2) 7 [zR 55, zI l1, zI l2, zI l3, zI l4, x5, x6, x7] [] 137 h := by
  refine s_fgt (fgt_c (fgt_c (fgt_c (fgt_c (fgt_c (fgt_n _ (fgt_n _ (fgt_n _ fgt_0)))))))) ?_
  refine s_iload (x := l4) dX10_measureForm_7 rfl ?_
  refine s_aload_n (x := 55) dX10_measureForm_9 rfl ?_
  refine s_getR (c := 55) dX10_measureForm_10 lX10_14 e55 rfl ?_
  refine s_getFd (c := h 55 0) (d := (h 55 0) + 13) dX10_measureForm_13 lX10_78 c1 (Or.inl rfl) rfl (ne0 (fin_X2_19 c1)) ?_
  refine s_iload_n (x := l1) dX10_measureForm_16 rfl ?_
  refine s_iald (c := (h 55 0) + 13) (i := l1) dX10_measureForm_17 (fin_X2_19 c1) r1.1 r1.2 ?_
  exact s_icmp_ge (tgt := 108) dX10_measureForm_18 (by decide) r2 r3 kt kf
theorem bX10_measureForm_21 {fr M1 M2 b1 b2 : Nat} {Q : RS → Nat → AH → Prop} {h : AH} {l1 l2 l3 l4 : Int} {x5 x6 x7 : AV} (c1 : cel 137 (h 55 0) (2, 21) := by first | assumption | omega) (r1 : 0 ≤ (l1 * 3) + l4 ∧ (l1 * 3) + l4 < 18 := by omega) (r2 : 0 ≤ h ((h 55 0) + 14) ((l1 * 3) + l4) ∧ h ((h 55 0) + 14) ((l1 * 3) + l4) < 4 := by omega) (kk : Wp mX10_measureForm (kR fr M1 M2) Q (b1, b2) 53 [zR 55, zI l1, zI (l2 * (h 71 (h ((h 55 0) + 14) ((l1 * 3) + l4)))), zI l3, zI l4, zI (h ((h 55 0) + 14) ((l1 * 3) + l4)), zI 0, zI 0] [] 137 h) : Wp mX10_measureForm (kR fr M1 M2) Q (b1, b2) 21 [zR 55, zI l1, zI l2, zI l3, zI l4, x5, x6, x7] [] 137 h := by
  refine s_fgt (fgt_c (fgt_c (fgt_c (fgt_c (fgt_c (fgt_n _ (fgt_n _ (fgt_n _ fgt_0)))))))) ?_
  refine s_aload_n (x := 55) dX10_measureForm_21 rfl ?_
  refine s_getR (c := 55) dX10_measureForm_22 lX10_14 e55 rfl ?_
  refine s_getFd (c := h 55 0) (d := (h 55 0) + 14) dX10_measureForm_25 lX10_81 c1 (Or.inl rfl) rfl (ne0 (fin_X2_20 c1)) ?_
  refine s_iload_n (x := l1) dX10_measureForm_28 rfl ?_
  refine s_iconst dX10_measureForm_29 ?_
  refine s_imul dX10_measureForm_30 ?_
  refine s_iload (x := l4) dX10_measureForm_31 rfl ?_
  refine s_iadd dX10_measureForm_33 ?_
  refine s_iald (c := (h 55 0) + 14) (i := (l1 * 3) + l4) dX10_measureForm_34 (fin_X2_20 c1) r1.1 r1.2 ?_
  refine s_istore dX10_measureForm_35 rfl (by decide) ?_
  refine s_iload_n (x := l2) dX10_measureForm_37 rfl ?_
  refine s_aload_n (x := 55) dX10_measureForm_38 rfl ?_
  refine s_getFd (c := 55) (d := 71) dX10_measureForm_39 lX10_18 e55 (Or.inl rfl) (by decide) (by decide) ?_
  refine s_iload (x := h ((h 55 0) + 14) ((l1 * 3) + l4)) dX10_measureForm_42 rfl ?_
  refine s_iald (c := 71) (i := h ((h 55 0) + 14) ((l1 * 3) + l4)) dX10_measureForm_44 e71 r2.1 r2.2 ?_
  refine s_imul dX10_measureForm_45 ?_
  refine s_istore_n dX10_measureForm_46 rfl (by decide) ?_
  refine s_iconst dX10_measureForm_47 ?_
  refine s_istore dX10_measureForm_48 rfl (by decide) ?_
  refine s_iconst dX10_measureForm_50 ?_
  refine s_istore dX10_measureForm_51 rfl (by decide) ?_
  exact kk
theorem bX10_measureForm_53 {fr M1 M2 b1 b2 : Nat} {Q : RS → Nat → AH → Prop} {h : AH} {l1 l2 l3 l4 l5 l6 l7 : Int}  (r1 : 0 ≤ l5 ∧ l5 < 4 := by omega) (r2 : -2147483648 ≤ l7 ∧ l7 < 2147483648 := by omega) (r3 : -2147483648 ≤ h 71 l5 ∧ h 71 l5 < 2147483648 := by omega) (kt : h 71 l5 ≤ l7 → Wp mX10_measureForm (kR fr M1 M2) Q (b1, b2) 99 [zR 55, zI l1, zI l2, zI l3, zI l4, zI l5, zI l6, zI l7] [] 137 h) (kf : l7 < h 71 l5 → Wp mX10_measureForm (kR fr M1 M2) Q (b1, b2) 65 [zR 55, zI l1, zI l2, zI l3, zI l4, zI l5, zI l6, zI l7] [] 137 h) : Wp mX10_measureForm (kR fr M1 M2) Q (b1, b2) 53 [zR 55, zI l1, zI l2, zI l3, zI l4, zI l5, zI l6, zI l7] [] 137 h := by
  refine s_iload (x := l7) dX10_measureForm_53 rfl ?_
  refine s_aload_n (x := 55) dX10_measureForm_55 rfl ?_
  refine s_getFd (c := 55) (d := 71) dX10_measureForm_56 lX10_18 e55 (Or.inl rfl) (by decide) (by decide) ?_
  refine s_iload (x := l5) dX10_measureForm_59 rfl ?_
  refine s_iald (c := 71) (i := l5) dX10_measureForm_61 e71 r1.1 r1.2 ?_
  exact s_icmp_ge (tgt := 99) dX10_measureForm_62 (by decide) r2 r3 kt kf
theorem bX10_measureForm_65 {fr M1 M2 b1 b2 : Nat} {Q : RS → Nat → AH → Prop} {h : AH} {l1 l2 l3 l4 l5 l6 l7 : Int} (c1 : cel 137 (h 55 0) (2, 21) := by first | assumption | omega) (r1 : 0 ≤ (l5 * 8) + l7 ∧ (l5 * 8) + l7 < 32 := by omega) (r2 : 0 ≤ h 72 ((l5 * 8) + l7) ∧ h 72 ((l5 * 8) + l7) < 8 := by omega) (r3 : 0 ≤ h ((h 55 0) + 11) (h 72 ((l5 * 8) + l7)) ∧ h ((h 55 0) + 11) (h 72 ((l5 * 8) + l7)) < 32 := by omega) (kk : Wp mX10_measureForm (kR fr M1 M2) Q (b1, b2) 53 [zR 55, zI l1, zI l2, zI l3, zI l4, zI l5, zI (bOr l6 (l3 * 2 ^ (h ((h 55 0) + 11) (h 72 ((l5 * 8) + l7))).toNat)), zI (l7 + 1)] [] 137 h) : Wp mX10_measureForm (kR fr M1 M2) Q (b1, b2) 65 [zR 55, zI l1, zI l2, zI l3, zI l4, zI l5, zI l6, zI l7] [] 137 h := by
  refine s_iload (x := l6) dX10_measureForm_65 rfl ?_
  refine s_iload_n (x := l3) dX10_measureForm_67 rfl ?_
  refine s_aload_n (x := 55) dX10_measureForm_68 rfl ?_
  refine s_getR (c := 55) dX10_measureForm_69 lX10_14 e55 rfl ?_
  refine s_getFd (c := h 55 0) (d := (h 55 0) + 11) dX10_measureForm_72 lX10_84 c1 (Or.inl rfl) rfl (ne0 (fin_X2_17 c1)) ?_
  refine s_aload_n (x := 55) dX10_measureForm_75 rfl ?_
  refine s_getFd (c := 55) (d := 72) dX10_measureForm_76 lX10_22 e55 (Or.inl rfl) (by decide) (by decide) ?_
  refine s_iload (x := l5) dX10_measureForm_79 rfl ?_
  refine s_bipush dX10_measureForm_81 (by decide) ?_
  refine s_imul dX10_measureForm_83 ?_
  refine s_iload (x := l7) dX10_measureForm_84 rfl ?_
  refine s_iadd dX10_measureForm_86 ?_
  refine s_iald (c := 72) (i := (l5 * 8) + l7) dX10_measureForm_87 e72 r1.1 r1.2 ?_
  refine s_iald (c := (h 55 0) + 11) (i := h 72 ((l5 * 8) + l7)) dX10_measureForm_88 (fin_X2_17 c1) r2.1 r2.2 ?_
  refine s_ishlN dX10_measureForm_89 r3.1 r3.2 ?_
  refine s_ior dX10_measureForm_90 ?_
  refine s_istore dX10_measureForm_91 rfl (by decide) ?_
  refine s_iinc (x := l7) dX10_measureForm_93 rfl rfl (by decide) ?_
  exact s_goto (tgt := 53) dX10_measureForm_96 (by decide) kk
theorem bX10_measureForm_99 {fr M1 M2 b1 b2 : Nat} {Q : RS → Nat → AH → Prop} {h : AH} {l1 l2 l4 l6 : Int} {x3 x5 x7 : AV}   (kk : Wp mX10_measureForm (kR fr M1 M2) Q (b1, b2) 7 [zR 55, zI l1, zI l2, zI l6, zI (l4 + 1), none, zI l6, none] [] 137 h) : Wp mX10_measureForm (kR fr M1 M2) Q (b1, b2) 99 [zR 55, zI l1, zI l2, x3, zI l4, x5, zI l6, x7] [] 137 h := by
  refine s_fgt (fgt_c (fgt_c (fgt_c (fgt_n _ (fgt_c (fgt_n _ (fgt_c (fgt_n _ fgt_0)))))))) ?_
  refine s_iload (x := l6) dX10_measureForm_99 rfl ?_
  refine s_istore_n dX10_measureForm_101 rfl (by decide) ?_
  refine s_iinc (x := l4) dX10_measureForm_102 rfl rfl (by decide) ?_
  exact s_goto (tgt := 7) dX10_measureForm_105 (by decide) kk
theorem bX10_measureForm_108 {fr M1 M2 b1 b2 : Nat} {Q : RS → Nat → AH → Prop} {h : AH} {l1 l2 l3 : Int} {x4 x5 x6 x7 : AV}  (r1 : 0 ≤ l1 ∧ l1 < 6 := by omega) (r2 : -2147483648 ≤ l2 ∧ l2 < 2147483648 := by omega) (kt : l2 ≤ 0 → Wp mX10_measureForm (kR fr M1 M2) Q (b1, b2) 164 [zR 55, zI l1, zI l2, zI l3, none, none, none, none] [] 137 (up (up (up h 73 l1 l2) 55 1 ((h 55 1) + l2)) 55 3 (bOr (h 55 3) l3))) (kf : 0 < l2 → Wp mX10_measureForm (kR fr M1 M2) Q (b1, b2) 139 [zR 55, zI l1, zI l2, zI l3, none, none, none, none] [] 137 (up (up (up h 73 l1 l2) 55 1 ((h 55 1) + l2)) 55 3 (bOr (h 55 3) l3))) : Wp mX10_measureForm (kR fr M1 M2) Q (b1, b2) 108 [zR 55, zI l1, zI l2, zI l3, x4, x5, x6, x7] [] 137 h := by
  refine s_fgt (fgt_c (fgt_c (fgt_c (fgt_c (fgt_n _ (fgt_n _ (fgt_n _ (fgt_n _ fgt_0)))))))) ?_
  refine s_aload_n (x := 55) dX10_measureForm_108 rfl ?_
  refine s_getFd (c := 55) (d := 73) dX10_measureForm_109 lX10_25 e55 (Or.inl rfl) (by decide) (by decide) ?_
  refine s_iload_n (x := l1) dX10_measureForm_112 rfl ?_
  refine s_iload_n (x := l2) dX10_measureForm_113 rfl ?_
  refine s_iast (c := 73) (i := l1) dX10_measureForm_114 e73 r1.1 r1.2 ?_
  refine s_aload_n (x := 55) dX10_measureForm_115 rfl ?_
  refine s_dup dX10_measureForm_116 rfl ?_
  refine s_get (c := 55) dX10_measureForm_117 lX10_59 e55 (by decide) ?_
  refine s_iload_n (x := l2) dX10_measureForm_120 rfl ?_
  refine s_iadd dX10_measureForm_121 ?_
  refine s_put (c := 55) dX10_measureForm_122 lX10_59 e55 ?_
  refine s_aload_n (x := 55) dX10_measureForm_125 rfl ?_
  refine s_dup dX10_measureForm_126 rfl ?_
  refine s_get (c := 55) dX10_measureForm_127 lX10_65 e55 (by decide) ?_
  refine s_iload_n (x := l3) dX10_measureForm_130 rfl ?_
  refine s_ior dX10_measureForm_131 ?_
  refine s_put (c := 55) dX10_measureForm_132 lX10_65 e55 ?_
  refine s_iload_n (x := l2) dX10_measureForm_135 rfl ?_
  exact s_if_le (tgt := 164) dX10_measureForm_136 (by decide) r2 kt kf
theorem bX10_measureForm_139 {fr M1 M2 b1 b2 : Nat} {Q : RS → Nat → AH → Prop} {h : AH} {l1 : Int} {x2 x3 x4 x5 x6 x7 : AV} (c1 : cel 137 (h 55 0) (2, 21) := by first | assumption | omega) (r1 : 0 ≤ l1 * 3 ∧ l1 * 3 < 18 := by omega) (r2 : 0 ≤ h ((h 55 0) + 14) (l1 * 3) ∧ h ((h 55 0) + 14) (l1 * 3) < 4 := by omega) (kk : Wp mX10_measureForm (kR fr M1 M2) Q (b1, b2) 164 [zR 55, zI l1, none, none, none, none, none, none] [] 137 (up h 55 2 ((h 55 2) + (h 71 (h ((h 55 0) + 14) (l1 * 3)))))) : Wp mX10_measureForm (kR fr M1 M2) Q (b1, b2) 139 [zR 55, zI l1, x2, x3, x4, x5, x6, x7] [] 137 h := by
  refine s_fgt (fgt_c (fgt_c (fgt_n _ (fgt_n _ (fgt_n _ (fgt_n _ (fgt_n _ (fgt_n _ fgt_0)))))))) ?_
  refine s_aload_n (x := 55) dX10_measureForm_139 rfl ?_
  refine s_dup dX10_measureForm_140 rfl ?_
  refine s_get (c := 55) dX10_measureForm_141 lX10_62 e55 (by decide) ?_
  refine s_aload_n (x := 55) dX10_measureForm_144 rfl ?_
  refine s_getFd (c := 55) (d := 71) dX10_measureForm_145 lX10_18 e55 (Or.inl rfl) (by decide) (by decide) ?_
  refine s_aload_n (x := 55) dX10_measureForm_148 rfl ?_
  refine s_getR (c := 55) dX10_measureForm_149 lX10_14 e55 rfl ?_
  refine s_getFd (c := h 55 0) (d := (h 55 0) + 14) dX10_measureForm_152 lX10_81 c1 (Or.inl rfl) rfl (ne0 (fin_X2_20 c1)) ?_
  refine s_iload_n (x := l1) dX10_measureForm_155 rfl ?_
  refine s_iconst dX10_measureForm_156 ?_
  refine s_imul dX10_measureForm_157 ?_
  refine s_iald (c := (h 55 0) + 14) (i := l1 * 3) dX10_measureForm_158 (fin_X2_20 c1) r1.1 r1.2 ?_
  refine s_iald (c := 71) (i := h ((h 55 0) + 14) (l1 * 3)) dX10_measureForm_159 e71 r2.1 r2.2 ?_
  refine s_iadd dX10_measureForm_160 ?_
  refine s_put (c := 55) dX10_measureForm_161 lX10_62 e55 ?_
  exact kk
theorem bX10_measureForm_164 {fr M1 M2 b1 b2 : Nat} {Q : RS → Nat → AH → Prop} {h : AH} {x0 x1 x2 x3 x4 x5 x6 x7 : AV}   (hq : Q (.inl none) 137 h) : Wp mX10_measureForm (kR fr M1 M2) Q (b1, b2) 164 [x0, x1, x2, x3, x4, x5, x6, x7] [] 137 h := by
  refine s_fgt (fgt_n _ (fgt_n _ (fgt_n _ (fgt_n _ (fgt_n _ (fgt_n _ (fgt_n _ (fgt_n _ fgt_0)))))))) ?_
  exact s_return dX10_measureForm_164 rfl hq (fun z => by cases z)
theorem dX10_spell_0 : decode mX10_spell.cd 0 = .ok (.iload_n 2, 1) := by decide +kernel
theorem dX10_spell_1 : decode mX10_spell.cd 1 = .ok (.istore_n 3, 1) := by decide +kernel
theorem dX10_spell_2 : decode mX10_spell.cd 2 = .ok (.aload_n 0, 1) := by decide +kernel
theorem dX10_spell_3 : decode mX10_spell.cd 3 = .ok (.getfield 14, 3) := by decide +kernel
theorem dX10_spell_6 : decode mX10_spell.cd 6 = .ok (.getfield 78, 3) := by decide +kernel
theorem dX10_spell_9 : decode mX10_spell.cd 9 = .ok (.iload_n 1, 1) := by decide +kernel
theorem dX10_spell_10 : decode mX10_spell.cd 10 = .ok (.iaload, 1) := by decide +kernel
theorem dX10_spell_11 : decode mX10_spell.cd 11 = .ok (.istore 4, 2) := by decide +kernel
theorem dX10_spell_13 : decode mX10_spell.cd 13 = .ok (.iload 4, 2) := by decide +kernel
theorem dX10_spell_15 : decode mX10_spell.cd 15 = .ok (.iconst 1, 1) := by decide +kernel
theorem dX10_spell_16 : decode mX10_spell.cd 16 = .ok (.isub, 1) := by decide +kernel
theorem dX10_spell_17 : decode mX10_spell.cd 17 = .ok (.istore 5, 2) := by decide +kernel
theorem dX10_spell_19 : decode mX10_spell.cd 19 = .ok (.iload 5, 2) := by decide +kernel
theorem dX10_spell_21 : decode mX10_spell.cd 21 = .ok (.ifCond .lt 65, 3) := by decide +kernel
theorem dX10_spell_24 : decode mX10_spell.cd 24 = .ok (.aload_n 0, 1) := by decide +kernel
theorem dX10_spell_25 : decode mX10_spell.cd 25 = .ok (.getfield 14, 3) := by decide +kernel
theorem dX10_spell_28 : decode mX10_spell.cd 28 = .ok (.getfield 81, 3) := by decide +kernel
theorem dX10_spell_31 : decode mX10_spell.cd 31 = .ok (.iload_n 1, 1) := by decide +kernel
theorem dX10_spell_32 : decode mX10_spell.cd 32 = .ok (.iconst 3, 1) := by decide +kernel
theorem dX10_spell_33 : decode mX10_spell.cd 33 = .ok (.imul, 1) := by decide +kernel
theorem dX10_spell_34 : decode mX10_spell.cd 34 = .ok (.iload 5, 2) := by decide +kernel
theorem dX10_spell_36 : decode mX10_spell.cd 36 = .ok (.iadd, 1) := by decide +kernel
theorem dX10_spell_37 : decode mX10_spell.cd 37 = .ok (.iaload, 1) := by decide +kernel
theorem dX10_spell_38 : decode mX10_spell.cd 38 = .ok (.istore 6, 2) := by decide +kernel
theorem dX10_spell_40 : decode mX10_spell.cd 40 = .ok (.iconst 1, 1) := by decide +kernel
theorem dX10_spell_41 : decode mX10_spell.cd 41 = .ok (.aload_n 0, 1) := by decide +kernel
theorem dX10_spell_42 : decode mX10_spell.cd 42 = .ok (.getfield 18, 3) := by decide +kernel
theorem dX10_spell_45 : decode mX10_spell.cd 45 = .ok (.iload 6, 2) := by decide +kernel
theorem dX10_spell_47 : decode mX10_spell.cd 47 = .ok (.iaload, 1) := by decide +kernel
theorem dX10_spell_48 : decode mX10_spell.cd 48 = .ok (.invokestatic 87, 3) := by decide +kernel
theorem dX10_spell_51 : decode mX10_spell.cd 51 = .ok (.istore 7, 2) := by decide +kernel
theorem dX10_spell_53 : decode mX10_spell.cd 53 = .ok (.aload_n 0, 1) := by decide +kernel
theorem dX10_spell_54 : decode mX10_spell.cd 54 = .ok (.getfield 34, 3) := by decide +kernel
theorem dX10_spell_57 : decode mX10_spell.cd 57 = .ok (.iload 5, 2) := by decide +kernel
theorem dX10_spell_59 : decode mX10_spell.cd 59 = .ok (.aload_n 0, 1) := by decide +kernel
theorem dX10_spell_60 : decode mX10_spell.cd 60 = .ok (.getfield 22, 3) := by decide +kernel
theorem dX10_spell_63 : decode mX10_spell.cd 63 = .ok (.iload 6, 2) := by decide +kernel
theorem dX10_spell_65 : decode mX10_spell.cd 65 = .ok (.bipush 8, 2) := by decide +kernel
theorem dX10_spell_67 : decode mX10_spell.cd 67 = .ok (.imul, 1) := by decide +kernel
theorem dX10_spell_68 : decode mX10_spell.cd 68 = .ok (.iload_n 3, 1) := by decide +kernel
theorem dX10_spell_69 : decode mX10_spell.cd 69 = .ok (.iload 7, 2) := by decide +kernel
theorem dX10_spell_71 : decode mX10_spell.cd 71 = .ok (.irem, 1) := by decide +kernel
theorem dX10_spell_72 : decode mX10_spell.cd 72 = .ok (.iadd, 1) := by decide +kernel
theorem dX10_spell_73 : decode mX10_spell.cd 73 = .ok (.iaload, 1) := by decide +kernel
theorem dX10_spell_74 : decode mX10_spell.cd 74 = .ok (.iastore, 1) := by decide +kernel
theorem dX10_spell_75 : decode mX10_spell.cd 75 = .ok (.iload_n 3, 1) := by decide +kernel
theorem dX10_spell_76 : decode mX10_spell.cd 76 = .ok (.iload 7, 2) := by decide +kernel
theorem dX10_spell_78 : decode mX10_spell.cd 78 = .ok (.idiv, 1) := by decide +kernel
theorem dX10_spell_79 : decode mX10_spell.cd 79 = .ok (.istore_n 3, 1) := by decide +kernel
theorem dX10_spell_80 : decode mX10_spell.cd 80 = .ok (.iinc 5 (-1), 3) := by decide +kernel
theorem dX10_spell_83 : decode mX10_spell.cd 83 = .ok (.goto (-64), 3) := by decide +kernel
theorem dX10_spell_86 : decode mX10_spell.cd 86 = .ok (.aload_n 0, 1) := by decide +kernel
theorem dX10_spell_87 : decode mX10_spell.cd 87 = .ok (.iconst 0, 1) := by decide +kernel
theorem dX10_spell_88 : decode mX10_spell.cd 88 = .ok (.putfield 93, 3) := by decide +kernel
theorem dX10_spell_91 : decode mX10_spell.cd 91 = .ok (.iconst 0, 1) := by decide +kernel
theorem dX10_spell_92 : decode mX10_spell.cd 92 = .ok (.istore 5, 2) := by decide +kernel
theorem dX10_spell_94 : decode mX10_spell.cd 94 = .ok (.iload 5, 2) := by decide +kernel
theorem dX10_spell_96 : decode mX10_spell.cd 96 = .ok (.iload 4, 2) := by decide +kernel
theorem dX10_spell_98 : decode mX10_spell.cd 98 = .ok (.if_icmp .ge 78, 3) := by decide +kernel
theorem dX10_spell_101 : decode mX10_spell.cd 101 = .ok (.aload_n 0, 1) := by decide +kernel
theorem dX10_spell_102 : decode mX10_spell.cd 102 = .ok (.getfield 34, 3) := by decide +kernel
theorem dX10_spell_105 : decode mX10_spell.cd 105 = .ok (.iload 5, 2) := by decide +kernel
theorem dX10_spell_107 : decode mX10_spell.cd 107 = .ok (.iaload, 1) := by decide +kernel
theorem dX10_spell_108 : decode mX10_spell.cd 108 = .ok (.istore 6, 2) := by decide +kernel
theorem dX10_spell_110 : decode mX10_spell.cd 110 = .ok (.iconst 0, 1) := by decide +kernel
theorem dX10_spell_111 : decode mX10_spell.cd 111 = .ok (.istore 7, 2) := by decide +kernel
theorem dX10_spell_113 : decode mX10_spell.cd 113 = .ok (.iload 7, 2) := by decide +kernel
theorem dX10_spell_115 : decode mX10_spell.cd 115 = .ok (.aload_n 0, 1) := by decide +kernel
theorem dX10_spell_116 : decode mX10_spell.cd 116 = .ok (.getfield 14, 3) := by decide +kernel
theorem dX10_spell_119 : decode mX10_spell.cd 119 = .ok (.getfield 84, 3) := by decide +kernel
theorem dX10_spell_122 : decode mX10_spell.cd 122 = .ok (.iload 6, 2) := by decide +kernel
theorem dX10_spell_124 : decode mX10_spell.cd 124 = .ok (.iaload, 1) := by decide +kernel
theorem dX10_spell_125 : decode mX10_spell.cd 125 = .ok (.if_icmp .ge 45, 3) := by decide +kernel
theorem dX10_spell_128 : decode mX10_spell.cd 128 = .ok (.aload_n 0, 1) := by decide +kernel
theorem dX10_spell_129 : decode mX10_spell.cd 129 = .ok (.getfield 37, 3) := by decide +kernel
theorem dX10_spell_132 : decode mX10_spell.cd 132 = .ok (.aload_n 0, 1) := by decide +kernel
theorem dX10_spell_133 : decode mX10_spell.cd 133 = .ok (.getfield 93, 3) := by decide +kernel
theorem dX10_spell_136 : decode mX10_spell.cd 136 = .ok (.iconst 1, 1) := by decide +kernel
theorem dX10_spell_137 : decode mX10_spell.cd 137 = .ok (.aload_n 0, 1) := by decide +kernel
theorem dX10_spell_138 : decode mX10_spell.cd 138 = .ok (.getfield 14, 3) := by decide +kernel
theorem dX10_spell_141 : decode mX10_spell.cd 141 = .ok (.getfield 95, 3) := by decide +kernel
theorem dX10_spell_144 : decode mX10_spell.cd 144 = .ok (.iload 6, 2) := by decide +kernel
theorem dX10_spell_146 : decode mX10_spell.cd 146 = .ok (.iconst 4, 1) := by decide +kernel
theorem dX10_spell_147 : decode mX10_spell.cd 147 = .ok (.imul, 1) := by decide +kernel
theorem dX10_spell_148 : decode mX10_spell.cd 148 = .ok (.iload 7, 2) := by decide +kernel
theorem dX10_spell_150 : decode mX10_spell.cd 150 = .ok (.iadd, 1) := by decide +kernel
theorem dX10_spell_151 : decode mX10_spell.cd 151 = .ok (.iaload, 1) := by decide +kernel
theorem dX10_spell_152 : decode mX10_spell.cd 152 = .ok (.ishl, 1) := by decide +kernel
theorem dX10_spell_153 : decode mX10_spell.cd 153 = .ok (.iastore, 1) := by decide +kernel
theorem dX10_spell_154 : decode mX10_spell.cd 154 = .ok (.aload_n 0, 1) := by decide +kernel
theorem dX10_spell_155 : decode mX10_spell.cd 155 = .ok (.dup, 1) := by decide +kernel
theorem dX10_spell_156 : decode mX10_spell.cd 156 = .ok (.getfield 93, 3) := by decide +kernel
theorem dX10_spell_159 : decode mX10_spell.cd 159 = .ok (.iconst 1, 1) := by decide +kernel
theorem dX10_spell_160 : decode mX10_spell.cd 160 = .ok (.iadd, 1) := by decide +kernel
theorem dX10_spell_161 : decode mX10_spell.cd 161 = .ok (.putfield 93, 3) := by decide +kernel
theorem dX10_spell_164 : decode mX10_spell.cd 164 = .ok (.iinc 7 1, 3) := by decide +kernel
theorem dX10_spell_167 : decode mX10_spell.cd 167 = .ok (.goto (-54), 3) := by decide +kernel
theorem dX10_spell_170 : decode mX10_spell.cd 170 = .ok (.iinc 5 1, 3) := by decide +kernel
theorem dX10_spell_173 : decode mX10_spell.cd 173 = .ok (.goto (-79), 3) := by decide +kernel
theorem dX10_spell_176 : decode mX10_spell.cd 176 = .ok (.return_, 1) := by decide +kernel
theorem bX10_spell_0 {fr M1 M2 b1 b2 : Nat} {Q : RS → Nat → AH → Prop} {h : AH} {l1 l2 : Int} {x3 x4 x5 x6 x7 : AV} (c1 : cel 137 (h 55 0) (2, 21) := by first | assumption | omega) (r1 : 0 ≤ l1 ∧ l1 < 6 := by omega) (kk : Wp mX10_spell (kR fr M1 M2) Q (b1, b2) 19 [zR 55, zI l1, zI l2, zI l2, zI (h ((h 55 0) + 13) l1), zI ((h ((h 55 0) + 13) l1) - 1), none, none] [] 137 h) : Wp mX10_spell (kR fr M1 M2) Q (b1, b2) 0 [zR 55, zI l1, zI l2, x3, x4, x5, x6, x7] [] 137 h := by
  refine s_fgt (fgt_c (fgt_c (fgt_c (fgt_n _ (fgt_n _ (fgt_n _ (fgt_n _ (fgt_n _ fgt_0)))))))) ?_
  refine s_iload_n (x := l2) dX10_spell_0 rfl ?_
  refine s_istore_n dX10_spell_1 rfl (by decide) ?_
  refine s_aload_n (x := 55) dX10_spell_2 rfl ?_
  refine s_getR (c := 55) dX10_spell_3 lX10_14 e55 rfl ?_
  refine s_getFd (c := h 55 0) (d := (h 55 0) + 13) dX10_spell_6 lX10_78 c1 (Or.inl rfl) rfl (ne0 (fin_X2_19 c1)) ?_
  refine s_iload_n (x := l1) dX10_spell_9 rfl ?_
  refine s_iald (c := (h 55 0) + 13) (i := l1) dX10_spell_10 (fin_X2_19 c1) r1.1 r1.2 ?_
  refine s_istore dX10_spell_11 rfl (by decide) ?_
  refine s_iload (x := h ((h 55 0) + 13) l1) dX10_spell_13 rfl ?_
  refine s_iconst dX10_spell_15 ?_
  refine s_isub dX10_spell_16 ?_
  refine s_istore dX10_spell_17 rfl (by decide) ?_
  exact kk
theorem bX10_spell_19 {fr M1 M2 b1 b2 : Nat} {Q : RS → Nat → AH → Prop} {h : AH} {l1 l3 l4 l5 : Int} {x2 x6 x7 : AV}  (r1 : -2147483648 ≤ l5 ∧ l5 < 2147483648 := by omega) (kt : l5 < 0 → Wp mX10_spell (kR fr M1 M2) Q (b1, b2) 86 [zR 55, zI l1, none, zI l3, zI l4, zI l5, none, none] [] 137 h) (kf : 0 ≤ l5 → Wp mX10_spell (kR fr M1 M2) Q (b1, b2) 24 [zR 55, zI l1, none, zI l3, zI l4, zI l5, none, none] [] 137 h) : Wp mX10_spell (kR fr M1 M2) Q (b1, b2) 19 [zR 55, zI l1, x2, zI l3, zI l4, zI l5, x6, x7] [] 137 h := by
  refine s_fgt (fgt_c (fgt_c (fgt_n _ (fgt_c (fgt_c (fgt_c (fgt_n _ (fgt_n _ fgt_0)))))))) ?_
  refine s_iload (x := l5) dX10_spell_19 rfl ?_
  exact s_if_lt (tgt := 86) dX10_spell_21 (by decide) r1 kt kf
theorem bX10_spell_24 {fr M1 M2 b1 b2 : Nat} {Q : RS → Nat → AH → Prop} {h : AH} {l1 l3 l4 l5 : Int} {x2 x6 x7 : AV} (c1 : cel 137 (h 55 0) (2, 21) := by first | assumption | omega) (r1 : 0 ≤ (l1 * 3) + l5 ∧ (l1 * 3) + l5 < 18 := by omega) (r2 : 0 ≤ h ((h 55 0) + 14) ((l1 * 3) + l5) ∧ h ((h 55 0) + 14) ((l1 * 3) + l5) < 4 := by omega) (r3 : 1 ≤ fr := by omega) (r4 : -2147483648 ≤ h 71 (h ((h 55 0) + 14) ((l1 * 3) + l5)) ∧ h 71 (h ((h 55 0) + 14) ((l1 * 3) + l5)) < 2147483648 := by omega) (r5 : 0 ≤ l3 ∧ l3 < 2147483648 := by omega) (r6 : 0 < max 1 (h 71 (h ((h 55 0) + 14) ((l1 * 3) + l5))) ∧ max 1 (h 71 (h ((h 55 0) + 14) ((l1 * 3) + l5))) < 2147483648 := by omega) (r7 : 0 ≤ ((h ((h 55 0) + 14) ((l1 * 3) + l5)) * 8) + (l3 % (max 1 (h 71 (h ((h 55 0) + 14) ((l1 * 3) + l5))))) ∧ ((h ((h 55 0) + 14) ((l1 * 3) + l5)) * 8) + (l3 % (max 1 (h 71 (h ((h 55 0) + 14) ((l1 * 3) + l5))))) < 32 := by omega) (r8 : 0 ≤ l5 ∧ l5 < 3 := by omega) (kk : Wp mX10_spell (kR fr M1 M2) Q (b1, b2) 19 [zR 55, zI l1, none, zI (l3 / (max 1 (h 71 (h ((h 55 0) + 14) ((l1 * 3) + l5))))), zI l4, zI (l5 + (-1)), zI (h ((h 55 0) + 14) ((l1 * 3) + l5)), zI (max 1 (h 71 (h ((h 55 0) + 14) ((l1 * 3) + l5))))] [] 137 (up h 76 l5 (h 72 (((h ((h 55 0) + 14) ((l1 * 3) + l5)) * 8) + (l3 % (max 1 (h 71 (h ((h 55 0) + 14) ((l1 * 3) + l5))))))))) : Wp mX10_spell (kR fr M1 M2) Q (b1, b2) 24 [zR 55, zI l1, x2, zI l3, zI l4, zI l5, x6, x7] [] 137 h := by
  refine s_fgt (fgt_c (fgt_c (fgt_n _ (fgt_c (fgt_c (fgt_c (fgt_n _ (fgt_n _ fgt_0)))))))) ?_
  refine s_aload_n (x := 55) dX10_spell_24 rfl ?_
  refine s_getR (c := 55) dX10_spell_25 lX10_14 e55 rfl ?_
  refine s_getFd (c := h 55 0) (d := (h 55 0) + 14) dX10_spell_28 lX10_81 c1 (Or.inl rfl) rfl (ne0 (fin_X2_20 c1)) ?_
  refine s_iload_n (x := l1) dX10_spell_31 rfl ?_
  refine s_iconst dX10_spell_32 ?_
  refine s_imul dX10_spell_33 ?_
  refine s_iload (x := l5) dX10_spell_34 rfl ?_
  refine s_iadd dX10_spell_36 ?_
  refine s_iald (c := (h 55 0) + 14) (i := (l1 * 3) + l5) dX10_spell_37 (fin_X2_20 c1) r1.1 r1.2 ?_
  refine s_istore dX10_spell_38 rfl (by decide) ?_
  refine s_iconst dX10_spell_40 ?_
  refine s_aload_n (x := 55) dX10_spell_41 rfl ?_
  refine s_getFd (c := 55) (d := 71) dX10_spell_42 lX10_18 e55 (Or.inl rfl) (by decide) (by decide) ?_
  refine s_iload (x := h ((h 55 0) + 14) ((l1 * 3) + l5)) dX10_spell_45 rfl ?_
  refine s_iald (c := 71) (i := h ((h 55 0) + 14) ((l1 * 3) + l5)) dX10_spell_47 e71 r2.1 r2.2 ?_
  refine s_mmax dX10_spell_48 wd1000 wd953 wd19 wd954 r3 (Nat.le_of_ble_eq_true rfl) ⟨by decide, by decide⟩ r4 ?_
  refine s_istore dX10_spell_51 rfl (by decide) ?_
  refine s_aload_n (x := 55) dX10_spell_53 rfl ?_
  refine s_getFd (c := 55) (d := 76) dX10_spell_54 lX10_34 e55 (Or.inl rfl) (by decide) (by decide) ?_
  refine s_iload (x := l5) dX10_spell_57 rfl ?_
  refine s_aload_n (x := 55) dX10_spell_59 rfl ?_
  refine s_getFd (c := 55) (d := 72) dX10_spell_60 lX10_22 e55 (Or.inl rfl) (by decide) (by decide) ?_
  refine s_iload (x := h ((h 55 0) + 14) ((l1 * 3) + l5)) dX10_spell_63 rfl ?_
  refine s_bipush dX10_spell_65 (by decide) ?_
  refine s_imul dX10_spell_67 ?_
  refine s_iload_n (x := l3) dX10_spell_68 rfl ?_
  refine s_iload (x := max 1 (h 71 (h ((h 55 0) + 14) ((l1 * 3) + l5)))) dX10_spell_69 rfl ?_
  refine s_iremN dX10_spell_71 r5.1 r5.2 r6.1 r6.2 ?_
  refine s_iadd dX10_spell_72 ?_
  refine s_iald (c := 72) (i := ((h ((h 55 0) + 14) ((l1 * 3) + l5)) * 8) + (l3 % (max 1 (h 71 (h ((h 55 0) + 14) ((l1 * 3) + l5)))))) dX10_spell_73 e72 r7.1 r7.2 ?_
  refine s_iast (c := 76) (i := l5) dX10_spell_74 e76 r8.1 r8.2 ?_
  refine s_iload_n (x := l3) dX10_spell_75 rfl ?_
  refine s_iload (x := max 1 (h 71 (h ((h 55 0) + 14) ((l1 * 3) + l5)))) dX10_spell_76 rfl ?_
  refine s_idivN dX10_spell_78 r5.1 r5.2 r6.1 r6.2 ?_
  refine s_istore_n dX10_spell_79 rfl (by decide) ?_
  refine s_iinc (x := l5) dX10_spell_80 rfl rfl (by decide) ?_
  exact s_goto (tgt := 19) dX10_spell_83 (by decide) kk
theorem bX10_spell_86 {fr M1 M2 b1 b2 : Nat} {Q : RS → Nat → AH → Prop} {h : AH} {l4 : Int} {x1 x2 x3 x5 x6 x7 : AV}   (kk : Wp mX10_spell (kR fr M1 M2) Q (b1, b2) 94 [zR 55, none, none, none, zI l4, zI 0, none, none] [] 137 (up h 55 12 0)) : Wp mX10_spell (kR fr M1 M2) Q (b1, b2) 86 [zR 55, x1, x2, x3, zI l4, x5, x6, x7] [] 137 h := by
  refine s_fgt (fgt_c (fgt_n _ (fgt_n _ (fgt_n _ (fgt_c (fgt_n _ (fgt_n _ (fgt_n _ fgt_0)))))))) ?_
  refine s_aload_n (x := 55) dX10_spell_86 rfl ?_
  refine s_iconst dX10_spell_87 ?_
  refine s_put (c := 55) dX10_spell_88 lX10_93 e55 ?_
  refine s_iconst dX10_spell_91 ?_
  refine s_istore dX10_spell_92 rfl (by decide) ?_
  exact kk
theorem bX10_spell_94 {fr M1 M2 b1 b2 : Nat} {Q : RS → Nat → AH → Prop} {h : AH} {l4 l5 : Int} {x1 x2 x3 x6 x7 : AV}  (r1 : -2147483648 ≤ l5 ∧ l5 < 2147483648 := by omega) (r2 : -2147483648 ≤ l4 ∧ l4 < 2147483648 := by omega) (kt : l4 ≤ l5 → Wp mX10_spell (kR fr M1 M2) Q (b1, b2) 176 [zR 55, none, none, none, zI l4, zI l5, none, none] [] 137 h) (kf : l5 < l4 → Wp mX10_spell (kR fr M1 M2) Q (b1, b2) 101 [zR 55, none, none, none, zI l4, zI l5, none, none] [] 137 h) : Wp mX10_spell (kR fr M1 M2) Q (b1, b2) 94 [zR 55, x1, x2, x3, zI l4, zI l5, x6, x7] [] 137 h := by
  refine s_fgt (fgt_c (fgt_n _ (fgt_n _ (fgt_n _ (fgt_c (fgt_c (fgt_n _ (fgt_n _ fgt_0)))))))) ?_
  refine s_iload (x := l5) dX10_spell_94 rfl ?_
  refine s_iload (x := l4) dX10_spell_96 rfl ?_
  exact s_icmp_ge (tgt := 176) dX10_spell_98 (by decide) r1 r2 kt kf
theorem bX10_spell_101 {fr M1 M2 b1 b2 : Nat} {Q : RS → Nat → AH → Prop} {h : AH} {l4 l5 : Int} {x1 x2 x3 x6 x7 : AV}  (r1 : 0 ≤ l5 ∧ l5 < 3 := by omega) (kk : Wp mX10_spell (kR fr M1 M2) Q (b1, b2) 113 [zR 55, none, none, none, zI l4, zI l5, zI (h 76 l5), zI 0] [] 137 h) : Wp mX10_spell (kR fr M1 M2) Q (b1, b2) 101 [zR 55, x1, x2, x3, zI l4, zI l5, x6, x7] [] 137 h := by
  refine s_fgt (fgt_c (fgt_n _ (fgt_n _ (fgt_n _ (fgt_c (fgt_c (fgt_n _ (fgt_n _ fgt_0)))))))) ?_
  refine s_aload_n (x := 55) dX10_spell_101 rfl ?_
  refine s_getFd (c := 55) (d := 76) dX10_spell_102 lX10_34 e55 (Or.inl rfl) (by decide) (by decide) ?_
  refine s_iload (x := l5) dX10_spell_105 rfl ?_
  refine s_iald (c := 76) (i := l5) dX10_spell_107 e76 r1.1 r1.2 ?_
  refine s_istore dX10_spell_108 rfl (by decide) ?_
  refine s_iconst dX10_spell_110 ?_
  refine s_istore dX10_spell_111 rfl (by decide) ?_
  exact kk
theorem bX10_spell_113 {fr M1 M2 b1 b2 : Nat} {Q : RS → Nat → AH → Prop} {h : AH} {l4 l5 l6 l7 : Int} {x1 x2 x3 : AV} (c1 : cel 137 (h 55 0) (2, 21) := by first | assumption | omega) (r1 : 0 ≤ l6 ∧ l6 < 8 := by omega) (r2 : -2147483648 ≤ l7 ∧ l7 < 2147483648 := by omega) (r3 : -2147483648 ≤ h ((h 55 0) + 11) l6 ∧ h ((h 55 0) + 11) l6 < 2147483648 := by omega) (kt : h ((h 55 0) + 11) l6 ≤ l7 → Wp mX10_spell (kR fr M1 M2) Q (b1, b2) 170 [zR 55, none, none, none, zI l4, zI l5, zI l6, zI l7] [] 137 h) (kf : l7 < h ((h 55 0) + 11) l6 → Wp mX10_spell (kR fr M1 M2) Q (b1, b2) 128 [zR 55, none, none, none, zI l4, zI l5, zI l6, zI l7] [] 137 h) : Wp mX10_spell (kR fr M1 M2) Q (b1, b2) 113 [zR 55, x1, x2, x3, zI l4, zI l5, zI l6, zI l7] [] 137 h := by
  refine s_fgt (fgt_c (fgt_n _ (fgt_n _ (fgt_n _ (fgt_c (fgt_c (fgt_c (fgt_c fgt_0)))))))) ?_
  refine s_iload (x := l7) dX10_spell_113 rfl ?_
  refine s_aload_n (x := 55) dX10_spell_115 rfl ?_
  refine s_getR (c := 55) dX10_spell_116 lX10_14 e55 rfl ?_
  refine s_getFd (c := h 55 0) (d := (h 55 0) + 11) dX10_spell_119 lX10_84 c1 (Or.inl rfl) rfl (ne0 (fin_X2_17 c1)) ?_
  refine s_iload (x := l6) dX10_spell_122 rfl ?_
  refine s_iald (c := (h 55 0) + 11) (i := l6) dX10_spell_124 (fin_X2_17 c1) r1.1 r1.2 ?_
  exact s_icmp_ge (tgt := 170) dX10_spell_125 (by decide) r2 r3 kt kf
theorem bX10_spell_128 {fr M1 M2 b1 b2 : Nat} {Q : RS → Nat → AH → Prop} {h : AH} {l4 l5 l6 l7 : Int} {x1 x2 x3 : AV} (c1 : cel 137 (h 55 0) (2, 21) := by first | assumption | omega) (r1 : 0 ≤ (l6 * 4) + l7 ∧ (l6 * 4) + l7 < 32 := by omega) (r2 : 0 ≤ h ((h 55 0) + 12) ((l6 * 4) + l7) ∧ h ((h 55 0) + 12) ((l6 * 4) + l7) < 32 := by omega) (r3 : 0 ≤ h 55 12 ∧ h 55 12 < 12 := by omega) (kk : Wp mX10_spell (kR fr M1 M2) Q (b1, b2) 113 [zR 55, none, none, none, zI l4, zI l5, zI l6, zI (l7 + 1)] [] 137 (up (up h 77 (h 55 12) (1 * 2 ^ (h ((h 55 0) + 12) ((l6 * 4) + l7)).toNat)) 55 12 ((h 55 12) + 1))) : Wp mX10_spell (kR fr M1 M2) Q (b1, b2) 128 [zR 55, x1, x2, x3, zI l4, zI l5, zI l6, zI l7] [] 137 h := by
  refine s_fgt (fgt_c (fgt_n _ (fgt_n _ (fgt_n _ (fgt_c (fgt_c (fgt_c (fgt_c fgt_0)))))))) ?_
  refine s_aload_n (x := 55) dX10_spell_128 rfl ?_
  refine s_getFd (c := 55) (d := 77) dX10_spell_129 lX10_37 e55 (Or.inl rfl) (by decide) (by decide) ?_
  refine s_aload_n (x := 55) dX10_spell_132 rfl ?_
  refine s_get (c := 55) dX10_spell_133 lX10_93 e55 (by decide) ?_
  refine s_iconst dX10_spell_136 ?_
  refine s_aload_n (x := 55) dX10_spell_137 rfl ?_
  refine s_getR (c := 55) dX10_spell_138 lX10_14 e55 rfl ?_
  refine s_getFd (c := h 55 0) (d := (h 55 0) + 12) dX10_spell_141 lX10_95 c1 (Or.inl rfl) rfl (ne0 (fin_X2_18 c1)) ?_
  refine s_iload (x := l6) dX10_spell_144 rfl ?_
  refine s_iconst dX10_spell_146 ?_
  refine s_imul dX10_spell_147 ?_
  refine s_iload (x := l7) dX10_spell_148 rfl ?_
  refine s_iadd dX10_spell_150 ?_
  refine s_iald (c := (h 55 0) + 12) (i := (l6 * 4) + l7) dX10_spell_151 (fin_X2_18 c1) r1.1 r1.2 ?_
  refine s_ishlN dX10_spell_152 r2.1 r2.2 ?_
  refine s_iast (c := 77) (i := h 55 12) dX10_spell_153 e77 r3.1 r3.2 ?_
  refine s_aload_n (x := 55) dX10_spell_154 rfl ?_
  refine s_dup dX10_spell_155 rfl ?_
  refine s_get (c := 55) dX10_spell_156 lX10_93 e55 (by decide) ?_
  refine s_iconst dX10_spell_159 ?_
  refine s_iadd dX10_spell_160 ?_
  refine s_put (c := 55) dX10_spell_161 lX10_93 e55 ?_
  refine s_iinc (x := l7) dX10_spell_164 rfl rfl (by decide) ?_
  exact s_goto (tgt := 113) dX10_spell_167 (by decide) kk
theorem bX10_spell_170 {fr M1 M2 b1 b2 : Nat} {Q : RS → Nat → AH → Prop} {h : AH} {l4 l5 : Int} {x1 x2 x3 x6 x7 : AV}   (kk : Wp mX10_spell (kR fr M1 M2) Q (b1, b2) 94 [zR 55, none, none, none, zI l4, zI (l5 + 1), none, none] [] 137 h) : Wp mX10_spell (kR fr M1 M2) Q (b1, b2) 170 [zR 55, x1, x2, x3, zI l4, zI l5, x6, x7] [] 137 h := by
  refine s_fgt (fgt_c (fgt_n _ (fgt_n _ (fgt_n _ (fgt_c (fgt_c (fgt_n _ (fgt_n _ fgt_0)))))))) ?_
  refine s_iinc (x := l5) dX10_spell_170 rfl rfl (by decide) ?_
  exact s_goto (tgt := 94) dX10_spell_173 (by decide) kk
theorem bX10_spell_176 {fr M1 M2 b1 b2 : Nat} {Q : RS → Nat → AH → Prop} {h : AH} {x0 x1 x2 x3 x4 x5 x6 x7 : AV}   (hq : Q (.inl none) 137 h) : Wp mX10_spell (kR fr M1 M2) Q (b1, b2) 176 [x0, x1, x2, x3, x4, x5, x6, x7] [] 137 h := by
  refine s_fgt (fgt_n _ (fgt_n _ (fgt_n _ (fgt_n _ (fgt_n _ (fgt_n _ (fgt_n _ (fgt_n _ fgt_0)))))))) ?_
  exact s_return dX10_spell_176 rfl hq (fun z => by cases z)
theorem dX10_listen_0 : decode mX10_listen.cd 0 = .ok (.aload_n 0, 1) := by decide +kernel
theorem dX10_listen_1 : decode mX10_listen.cd 1 = .ok (.iconst 0, 1) := by decide +kernel
theorem dX10_listen_2 : decode mX10_listen.cd 2 = .ok (.putfield 98, 3) := by decide +kernel
theorem dX10_listen_5 : decode mX10_listen.cd 5 = .ok (.aload_n 1, 1) := by decide +kernel
theorem dX10_listen_6 : decode mX10_listen.cd 6 = .ok (.aload_n 0, 1) := by decide +kernel
theorem dX10_listen_7 : decode mX10_listen.cd 7 = .ok (.getfield 14, 3) := by decide +kernel
theorem dX10_listen_10 : decode mX10_listen.cd 10 = .ok (.aload_n 2, 1) := by decide +kernel
theorem dX10_listen_11 : decode mX10_listen.cd 11 = .ok (.aload_n 0, 1) := by decide +kernel
theorem dX10_listen_12 : decode mX10_listen.cd 12 = .ok (.getfield 37, 3) := by decide +kernel
theorem dX10_listen_15 : decode mX10_listen.cd 15 = .ok (.aload_n 0, 1) := by decide +kernel
theorem dX10_listen_16 : decode mX10_listen.cd 16 = .ok (.getfield 93, 3) := by decide +kernel
theorem dX10_listen_19 : decode mX10_listen.cd 19 = .ok (.iconst 1, 1) := by decide +kernel
theorem dX10_listen_20 : decode mX10_listen.cd 20 = .ok (.isub, 1) := by decide +kernel
theorem dX10_listen_21 : decode mX10_listen.cd 21 = .ok (.invokevirtual 101, 3) := by decide +kernel
theorem dX10_listen_24 : decode mX10_listen.cd 24 = .ok (.aload_n 0, 1) := by decide +kernel
theorem dX10_listen_25 : decode mX10_listen.cd 25 = .ok (.getfield 93, 3) := by decide +kernel
theorem dX10_listen_28 : decode mX10_listen.cd 28 = .ok (.iconst 1, 1) := by decide +kernel
theorem dX10_listen_29 : decode mX10_listen.cd 29 = .ok (.isub, 1) := by decide +kernel
theorem dX10_listen_30 : decode mX10_listen.cd 30 = .ok (.aload_n 2, 1) := by decide +kernel
theorem dX10_listen_31 : decode mX10_listen.cd 31 = .ok (.invokevirtual 107, 3) := by decide +kernel
theorem dX10_listen_34 : decode mX10_listen.cd 34 = .ok (.iadd, 1) := by decide +kernel
theorem dX10_listen_35 : decode mX10_listen.cd 35 = .ok (.istore_n 3, 1) := by decide +kernel
theorem dX10_listen_36 : decode mX10_listen.cd 36 = .ok (.iconst 0, 1) := by decide +kernel
theorem dX10_listen_37 : decode mX10_listen.cd 37 = .ok (.istore 4, 2) := by decide +kernel
theorem dX10_listen_39 : decode mX10_listen.cd 39 = .ok (.iload 4, 2) := by decide +kernel
theorem dX10_listen_41 : decode mX10_listen.cd 41 = .ok (.iload_n 3, 1) := by decide +kernel
theorem dX10_listen_42 : decode mX10_listen.cd 42 = .ok (.if_icmp .gt 79, 3) := by decide +kernel
theorem dX10_listen_45 : decode mX10_listen.cd 45 = .ok (.aload_n 1, 1) := by decide +kernel
theorem dX10_listen_46 : decode mX10_listen.cd 46 = .ok (.iload 4, 2) := by decide +kernel
theorem dX10_listen_48 : decode mX10_listen.cd 48 = .ok (.invokevirtual 112, 3) := by decide +kernel
theorem dX10_listen_51 : decode mX10_listen.cd 51 = .ok (.iload 4, 2) := by decide +kernel
theorem dX10_listen_53 : decode mX10_listen.cd 53 = .ok (.aload_n 0, 1) := by decide +kernel
theorem dX10_listen_54 : decode mX10_listen.cd 54 = .ok (.getfield 93, 3) := by decide +kernel
theorem dX10_listen_57 : decode mX10_listen.cd 57 = .ok (.if_icmp .ge 7, 3) := by decide +kernel
theorem dX10_listen_60 : decode mX10_listen.cd 60 = .ok (.iconst (-1), 1) := by decide +kernel
theorem dX10_listen_61 : decode mX10_listen.cd 61 = .ok (.goto 9, 3) := by decide +kernel
theorem dX10_listen_64 : decode mX10_listen.cd 64 = .ok (.aload_n 1, 1) := by decide +kernel
theorem dX10_listen_65 : decode mX10_listen.cd 65 = .ok (.iload 4, 2) := by decide +kernel
theorem dX10_listen_67 : decode mX10_listen.cd 67 = .ok (.invokevirtual 115, 3) := by decide +kernel
theorem dX10_listen_70 : decode mX10_listen.cd 70 = .ok (.istore 5, 2) := by decide +kernel
theorem dX10_listen_72 : decode mX10_listen.cd 72 = .ok (.iload 5, 2) := by decide +kernel
theorem dX10_listen_74 : decode mX10_listen.cd 74 = .ok (.iconst (-1), 1) := by decide +kernel
theorem dX10_listen_75 : decode mX10_listen.cd 75 = .ok (.if_icmp .ne 6, 3) := by decide +kernel
theorem dX10_listen_78 : decode mX10_listen.cd 78 = .ok (.goto 37, 3) := by decide +kernel
theorem dX10_listen_81 : decode mX10_listen.cd 81 = .ok (.aload_n 0, 1) := by decide +kernel
theorem dX10_listen_82 : decode mX10_listen.cd 82 = .ok (.getfield 98, 3) := by decide +kernel
theorem dX10_listen_85 : decode mX10_listen.cd 85 = .ok (.aload_n 0, 1) := by decide +kernel
theorem dX10_listen_86 : decode mX10_listen.cd 86 = .ok (.getfield 75, 3) := by decide +kernel
theorem dX10_listen_89 : decode mX10_listen.cd 89 = .ok (.if_icmp .lt 5, 3) := by decide +kernel
theorem dX10_listen_92 : decode mX10_listen.cd 92 = .ok (.iconst 0, 1) := by decide +kernel
theorem dX10_listen_93 : decode mX10_listen.cd 93 = .ok (.ireturn, 1) := by decide +kernel
theorem dX10_listen_94 : decode mX10_listen.cd 94 = .ok (.aload_n 0, 1) := by decide +kernel
theorem dX10_listen_95 : decode mX10_listen.cd 95 = .ok (.getfield 40, 3) := by decide +kernel
theorem dX10_listen_98 : decode mX10_listen.cd 98 = .ok (.aload_n 0, 1) := by decide +kernel
theorem dX10_listen_99 : decode mX10_listen.cd 99 = .ok (.getfield 98, 3) := by decide +kernel
theorem dX10_listen_102 : decode mX10_listen.cd 102 = .ok (.iload 5, 2) := by decide +kernel
theorem dX10_listen_104 : decode mX10_listen.cd 104 = .ok (.iastore, 1) := by decide +kernel
theorem dX10_listen_105 : decode mX10_listen.cd 105 = .ok (.aload_n 0, 1) := by decide +kernel
theorem dX10_listen_106 : decode mX10_listen.cd 106 = .ok (.dup, 1) := by decide +kernel
theorem dX10_listen_107 : decode mX10_listen.cd 107 = .ok (.getfield 98, 3) := by decide +kernel
theorem dX10_listen_110 : decode mX10_listen.cd 110 = .ok (.iconst 1, 1) := by decide +kernel
theorem dX10_listen_111 : decode mX10_listen.cd 111 = .ok (.iadd, 1) := by decide +kernel
theorem dX10_listen_112 : decode mX10_listen.cd 112 = .ok (.putfield 98, 3) := by decide +kernel
theorem dX10_listen_115 : decode mX10_listen.cd 115 = .ok (.iinc 4 1, 3) := by decide +kernel
theorem dX10_listen_118 : decode mX10_listen.cd 118 = .ok (.goto (-79), 3) := by decide +kernel
theorem dX10_listen_121 : decode mX10_listen.cd 121 = .ok (.iconst 1, 1) := by decide +kernel
theorem dX10_listen_122 : decode mX10_listen.cd 122 = .ok (.ireturn, 1) := by decide +kernel
theorem bX10_listen_0 {fr M1 M2 b1 b2 : Nat} {Q : RS → Nat → AH → Prop} {h : AH} {l2 : Int} {x3 x4 x5 : AV} {R : AH → Prop}   (hS : Sp mX4_attend true (fr - 1) 0 0 [zR 51, zR (h 55 0), zR l2, zR 77, zI ((h 55 12) - 1)] 137 (up h 55 14 0) (rV R)) (hf : 1 ≤ fr := by omega) (kk : ∀ h' : AH, R h' → Wp mX10_listen (kR fr M1 M2) Q (b1, b2) 24 [zR 55, zR 51, zR l2, none, none, none] [] 137 h') : Wp mX10_listen (kR fr M1 M2) Q (b1, b2) 0 [zR 55, zR 51, zR l2, x3, x4, x5] [] 137 h := by
  refine s_fgt (fgt_c (fgt_c (fgt_c (fgt_n _ (fgt_n _ (fgt_n _ fgt_0)))))) ?_
  refine s_aload_n (x := 55) dX10_listen_0 rfl ?_
  refine s_iconst dX10_listen_1 ?_
  refine s_put (c := 55) dX10_listen_2 lX10_98 e55 ?_
  refine s_aload_n (x := 51) dX10_listen_5 rfl ?_
  refine s_aload_n (x := 55) dX10_listen_6 rfl ?_
  refine s_getR (c := 55) dX10_listen_7 lX10_14 e55 rfl ?_
  refine s_aload_n (x := l2) dX10_listen_10 rfl ?_
  refine s_aload_n (x := 55) dX10_listen_11 rfl ?_
  refine s_getFd (c := 55) (d := 77) dX10_listen_12 lX10_37 e55 (Or.inl rfl) (by decide) (by decide) ?_
  refine s_aload_n (x := 55) dX10_listen_15 rfl ?_
  refine s_get (c := 55) dX10_listen_16 lX10_93 e55 (by decide) ?_
  refine s_iconst dX10_listen_19 ?_
  refine s_isub dX10_listen_20 ?_
  exact s_callV (as := [zR (h 55 0), zR l2, zR 77, zI ((h 55 12) - 1)]) (st := []) (o := 51) dX10_listen_21 kX10_101 rfl ⟨4, 9, TX4, e51, rfl, by decide⟩ rfl rfl (Nat.le_of_ble_eq_true rfl) hS (show fr - 1 + 1 ≤ fr by omega) (Nat.zero_le _) (Nat.zero_le _) (fun v n' h' hP _ => by obtain ⟨e, rfl, hR⟩ := hP; cases e; exact kk h' hR) (fun E n' h' _ z => (rV_nt _ _ _ z).elim)
theorem bX10_listen_24 {fr M1 M2 b1 b2 : Nat} {Q : RS → Nat → AH → Prop} {h : AH} {l2 : Int} {x3 x4 x5 : AV} {R : Int → AH → Prop} (c1 : cel 137 l2 (7, 9) := by first | assumption | omega)  (hS : Sp mX7_longest true (fr - 1) 0 0 [zR l2] 137 h (rI R)) (hf : 1 ≤ fr := by omega) (kk : ∀ (x : Int) (h' : AH), R x h' → Wp mX10_listen (kR fr M1 M2) Q (b1, b2) 34 [zR 55, zR 51, zR l2, none, none, none] [zI x, zI ((h 55 12) - 1)] 137 h') : Wp mX10_listen (kR fr M1 M2) Q (b1, b2) 24 [zR 55, zR 51, zR l2, x3, x4, x5] [] 137 h := by
  refine s_fgt (fgt_c (fgt_c (fgt_c (fgt_n _ (fgt_n _ (fgt_n _ fgt_0)))))) ?_
  refine s_aload_n (x := 55) dX10_listen_24 rfl ?_
  refine s_get (c := 55) dX10_listen_25 lX10_93 e55 (by decide) ?_
  refine s_iconst dX10_listen_28 ?_
  refine s_isub dX10_listen_29 ?_
  refine s_aload_n (x := l2) dX10_listen_30 rfl ?_
  exact s_callV (as := []) (st := [zI ((h 55 12) - 1)]) (o := l2) dX10_listen_31 kX10_107 rfl ⟨7, 9, TX7, c1, rfl, by decide⟩ rfl rfl (Nat.le_of_ble_eq_true rfl) hS (show fr - 1 + 1 ≤ fr by omega) (Nat.zero_le _) (Nat.zero_le _) (fun v n' h' hP _ => by obtain ⟨x, e, rfl, hR⟩ := hP; cases e; exact kk x h' hR) (fun E n' h' _ z => (rI_nt _ _ _ z).elim)
theorem bX10_listen_34 {fr M1 M2 b1 b2 : Nat} {Q : RS → Nat → AH → Prop} {h : AH} {s1 s0 : Int} {x2 x3 x4 x5 : AV}   (kk : Wp mX10_listen (kR fr M1 M2) Q (b1, b2) 39 [zR 55, zR 51, none, zI (s1 + s0), zI 0, none] [] 137 h) : Wp mX10_listen (kR fr M1 M2) Q (b1, b2) 34 [zR 55, zR 51, x2, x3, x4, x5] [zI s0, zI s1] 137 h := by
  refine s_fgt (fgt_c (fgt_c (fgt_n _ (fgt_n _ (fgt_n _ (fgt_n _ fgt_0)))))) ?_
  refine s_iadd dX10_listen_34 ?_
  refine s_istore_n dX10_listen_35 rfl (by decide) ?_
  refine s_iconst dX10_listen_36 ?_
  refine s_istore dX10_listen_37 rfl (by decide) ?_
  exact kk
theorem bX10_listen_39 {fr M1 M2 b1 b2 : Nat} {Q : RS → Nat → AH → Prop} {h : AH} {l3 l4 : Int} {x2 x5 : AV}  (r1 : -2147483648 ≤ l4 ∧ l4 < 2147483648 := by omega) (r2 : -2147483648 ≤ l3 ∧ l3 < 2147483648 := by omega) (kt : l3 < l4 → Wp mX10_listen (kR fr M1 M2) Q (b1, b2) 121 [zR 55, zR 51, none, zI l3, zI l4, none] [] 137 h) (kf : l4 ≤ l3 → Wp mX10_listen (kR fr M1 M2) Q (b1, b2) 45 [zR 55, zR 51, none, zI l3, zI l4, none] [] 137 h) : Wp mX10_listen (kR fr M1 M2) Q (b1, b2) 39 [zR 55, zR 51, x2, zI l3, zI l4, x5] [] 137 h := by
  refine s_fgt (fgt_c (fgt_c (fgt_n _ (fgt_c (fgt_c (fgt_n _ fgt_0)))))) ?_
  refine s_iload (x := l4) dX10_listen_39 rfl ?_
  refine s_iload_n (x := l3) dX10_listen_41 rfl ?_
  exact s_icmp_gt (tgt := 121) dX10_listen_42 (by decide) r1 r2 kt kf
theorem bX10_listen_45 {fr M1 M2 b1 b2 : Nat} {Q : RS → Nat → AH → Prop} {h : AH} {l3 l4 : Int} {x2 x5 : AV} {R : AH → Prop}   (hS : Sp mX4_measure true (fr - 1) 0 0 [zR 51, zI l4] 137 h (rV R)) (hf : 1 ≤ fr := by omega) (kk : ∀ h' : AH, R h' → Wp mX10_listen (kR fr M1 M2) Q (b1, b2) 51 [zR 55, zR 51, none, zI l3, zI l4, none] [] 137 h') : Wp mX10_listen (kR fr M1 M2) Q (b1, b2) 45 [zR 55, zR 51, x2, zI l3, zI l4, x5] [] 137 h := by
  refine s_fgt (fgt_c (fgt_c (fgt_n _ (fgt_c (fgt_c (fgt_n _ fgt_0)))))) ?_
  refine s_aload_n (x := 51) dX10_listen_45 rfl ?_
  refine s_iload (x := l4) dX10_listen_46 rfl ?_
  exact s_callV (as := [zI l4]) (st := []) (o := 51) dX10_listen_48 kX10_112 rfl ⟨4, 9, TX4, e51, rfl, by decide⟩ rfl rfl (Nat.le_of_ble_eq_true rfl) hS (show fr - 1 + 1 ≤ fr by omega) (Nat.zero_le _) (Nat.zero_le _) (fun v n' h' hP _ => by obtain ⟨e, rfl, hR⟩ := hP; cases e; exact kk h' hR) (fun E n' h' _ z => (rV_nt _ _ _ z).elim)
theorem bX10_listen_51 {fr M1 M2 b1 b2 : Nat} {Q : RS → Nat → AH → Prop} {h : AH} {l3 l4 : Int} {x2 x5 : AV}  (r1 : -2147483648 ≤ l4 ∧ l4 < 2147483648 := by omega) (r2 : -2147483648 ≤ h 55 12 ∧ h 55 12 < 2147483648 := by omega) (kt : h 55 12 ≤ l4 → Wp mX10_listen (kR fr M1 M2) Q (b1, b2) 64 [zR 55, zR 51, none, zI l3, zI l4, none] [] 137 h) (kf : l4 < h 55 12 → Wp mX10_listen (kR fr M1 M2) Q (b1, b2) 60 [zR 55, zR 51, none, zI l3, zI l4, none] [] 137 h) : Wp mX10_listen (kR fr M1 M2) Q (b1, b2) 51 [zR 55, zR 51, x2, zI l3, zI l4, x5] [] 137 h := by
  refine s_fgt (fgt_c (fgt_c (fgt_n _ (fgt_c (fgt_c (fgt_n _ fgt_0)))))) ?_
  refine s_iload (x := l4) dX10_listen_51 rfl ?_
  refine s_aload_n (x := 55) dX10_listen_53 rfl ?_
  refine s_get (c := 55) dX10_listen_54 lX10_93 e55 (by decide) ?_
  exact s_icmp_ge (tgt := 64) dX10_listen_57 (by decide) r1 r2 kt kf
theorem bX10_listen_60 {fr M1 M2 b1 b2 : Nat} {Q : RS → Nat → AH → Prop} {h : AH} {l3 l4 : Int} {x2 x5 : AV}   (kk : Wp mX10_listen (kR fr M1 M2) Q (b1, b2) 70 [zR 55, zR 51, none, zI l3, zI l4, none] [zI (-1)] 137 h) : Wp mX10_listen (kR fr M1 M2) Q (b1, b2) 60 [zR 55, zR 51, x2, zI l3, zI l4, x5] [] 137 h := by
  refine s_fgt (fgt_c (fgt_c (fgt_n _ (fgt_c (fgt_c (fgt_n _ fgt_0)))))) ?_
  refine s_iconst dX10_listen_60 ?_
  exact s_goto (tgt := 70) dX10_listen_61 (by decide) kk
theorem bX10_listen_64 {fr M1 M2 b1 b2 : Nat} {Q : RS → Nat → AH → Prop} {h : AH} {l3 l4 : Int} {x2 x5 : AV} {R : Int → AH → Prop}   (hS : Sp mX4_hears true (fr - 1) 0 0 [zR 51, zI l4] 137 h (rI R)) (hf : 1 ≤ fr := by omega) (kk : ∀ (x : Int) (h' : AH), R x h' → Wp mX10_listen (kR fr M1 M2) Q (b1, b2) 70 [zR 55, zR 51, none, zI l3, zI l4, none] [zI x] 137 h') : Wp mX10_listen (kR fr M1 M2) Q (b1, b2) 64 [zR 55, zR 51, x2, zI l3, zI l4, x5] [] 137 h := by
  refine s_fgt (fgt_c (fgt_c (fgt_n _ (fgt_c (fgt_c (fgt_n _ fgt_0)))))) ?_
  refine s_aload_n (x := 51) dX10_listen_64 rfl ?_
  refine s_iload (x := l4) dX10_listen_65 rfl ?_
  exact s_callV (as := [zI l4]) (st := []) (o := 51) dX10_listen_67 kX10_115 rfl ⟨4, 9, TX4, e51, rfl, by decide⟩ rfl rfl (Nat.le_of_ble_eq_true rfl) hS (show fr - 1 + 1 ≤ fr by omega) (Nat.zero_le _) (Nat.zero_le _) (fun v n' h' hP _ => by obtain ⟨x, e, rfl, hR⟩ := hP; cases e; exact kk x h' hR) (fun E n' h' _ z => (rI_nt _ _ _ z).elim)
theorem bX10_listen_70 {fr M1 M2 b1 b2 : Nat} {Q : RS → Nat → AH → Prop} {h : AH} {l3 l4 s0 : Int} {x2 x5 : AV}  (r1 : -2147483648 ≤ s0 ∧ s0 < 2147483648 := by omega) (kt : ¬ s0 = (-1) → Wp mX10_listen (kR fr M1 M2) Q (b1, b2) 81 [zR 55, zR 51, none, zI l3, zI l4, zI s0] [] 137 h) (kf : s0 = (-1) → Wp mX10_listen (kR fr M1 M2) Q (b1, b2) 78 [zR 55, zR 51, none, zI l3, zI l4, zI s0] [] 137 h) : Wp mX10_listen (kR fr M1 M2) Q (b1, b2) 70 [zR 55, zR 51, x2, zI l3, zI l4, x5] [zI s0] 137 h := by
  refine s_fgt (fgt_c (fgt_c (fgt_n _ (fgt_c (fgt_c (fgt_n _ fgt_0)))))) ?_
  refine s_istore dX10_listen_70 rfl (by decide) ?_
  refine s_iload (x := s0) dX10_listen_72 rfl ?_
  refine s_iconst dX10_listen_74 ?_
  exact s_icmp_ne (tgt := 81) dX10_listen_75 (by decide) r1 ⟨by decide, by decide⟩ kt kf
theorem bX10_listen_78 {fr M1 M2 b1 b2 : Nat} {Q : RS → Nat → AH → Prop} {h : AH} {l3 l4 : Int} {x2 x5 : AV}   (kk : Wp mX10_listen (kR fr M1 M2) Q (b1, b2) 115 [zR 55, zR 51, none, zI l3, zI l4, none] [] 137 h) : Wp mX10_listen (kR fr M1 M2) Q (b1, b2) 78 [zR 55, zR 51, x2, zI l3, zI l4, x5] [] 137 h := by
  refine s_fgt (fgt_c (fgt_c (fgt_n _ (fgt_c (fgt_c (fgt_n _ fgt_0)))))) ?_
  exact s_goto (tgt := 115) dX10_listen_78 (by decide) kk
theorem bX10_listen_81 {fr M1 M2 b1 b2 : Nat} {Q : RS → Nat → AH → Prop} {h : AH} {l3 l4 l5 : Int} {x2 : AV}  (r1 : -2147483648 ≤ h 55 14 ∧ h 55 14 < 2147483648 := by omega) (r2 : -2147483648 ≤ h 55 4 ∧ h 55 4 < 2147483648 := by omega) (kt : h 55 14 < h 55 4 → Wp mX10_listen (kR fr M1 M2) Q (b1, b2) 94 [zR 55, zR 51, none, zI l3, zI l4, zI l5] [] 137 h) (kf : h 55 4 ≤ h 55 14 → Wp mX10_listen (kR fr M1 M2) Q (b1, b2) 92 [zR 55, zR 51, none, zI l3, zI l4, zI l5] [] 137 h) : Wp mX10_listen (kR fr M1 M2) Q (b1, b2) 81 [zR 55, zR 51, x2, zI l3, zI l4, zI l5] [] 137 h := by
  refine s_fgt (fgt_c (fgt_c (fgt_n _ (fgt_c (fgt_c (fgt_c fgt_0)))))) ?_
  refine s_aload_n (x := 55) dX10_listen_81 rfl ?_
  refine s_get (c := 55) dX10_listen_82 lX10_98 e55 (by decide) ?_
  refine s_aload_n (x := 55) dX10_listen_85 rfl ?_
  refine s_get (c := 55) dX10_listen_86 lX10_75 e55 (by decide) ?_
  exact s_icmp_lt (tgt := 94) dX10_listen_89 (by decide) r1 r2 kt kf
theorem bX10_listen_92 {fr M1 M2 b1 b2 : Nat} {Q : RS → Nat → AH → Prop} {h : AH} {x0 x1 x2 x3 x4 x5 : AV}   (hq : Q (.inl (some (zI 0))) 137 h) : Wp mX10_listen (kR fr M1 M2) Q (b1, b2) 92 [x0, x1, x2, x3, x4, x5] [] 137 h := by
  refine s_fgt (fgt_n _ (fgt_n _ (fgt_n _ (fgt_n _ (fgt_n _ (fgt_n _ fgt_0)))))) ?_
  refine s_iconst dX10_listen_92 ?_
  exact s_ireturn dX10_listen_93 ⟨.boolean, rfl, by decide⟩ hq (fun z => by cases z)
theorem bX10_listen_94 {fr M1 M2 b1 b2 : Nat} {Q : RS → Nat → AH → Prop} {h : AH} {l3 l4 l5 : Int} {x2 : AV}  (r1 : 0 ≤ h 55 14 ∧ h 55 14 < 12 := by omega) (kk : Wp mX10_listen (kR fr M1 M2) Q (b1, b2) 115 [zR 55, zR 51, none, zI l3, zI l4, zI l5] [] 137 (up (up h 78 (h 55 14) l5) 55 14 ((h 55 14) + 1))) : Wp mX10_listen (kR fr M1 M2) Q (b1, b2) 94 [zR 55, zR 51, x2, zI l3, zI l4, zI l5] [] 137 h := by
  refine s_fgt (fgt_c (fgt_c (fgt_n _ (fgt_c (fgt_c (fgt_c fgt_0)))))) ?_
  refine s_aload_n (x := 55) dX10_listen_94 rfl ?_
  refine s_getFd (c := 55) (d := 78) dX10_listen_95 lX10_40 e55 (Or.inl rfl) (by decide) (by decide) ?_
  refine s_aload_n (x := 55) dX10_listen_98 rfl ?_
  refine s_get (c := 55) dX10_listen_99 lX10_98 e55 (by decide) ?_
  refine s_iload (x := l5) dX10_listen_102 rfl ?_
  refine s_iast (c := 78) (i := h 55 14) dX10_listen_104 e78 r1.1 r1.2 ?_
  refine s_aload_n (x := 55) dX10_listen_105 rfl ?_
  refine s_dup dX10_listen_106 rfl ?_
  refine s_get (c := 55) dX10_listen_107 lX10_98 e55 (by decide) ?_
  refine s_iconst dX10_listen_110 ?_
  refine s_iadd dX10_listen_111 ?_
  refine s_put (c := 55) dX10_listen_112 lX10_98 e55 ?_
  exact kk
theorem bX10_listen_115 {fr M1 M2 b1 b2 : Nat} {Q : RS → Nat → AH → Prop} {h : AH} {l3 l4 : Int} {x2 x5 : AV}   (kk : Wp mX10_listen (kR fr M1 M2) Q (b1, b2) 39 [zR 55, zR 51, none, zI l3, zI (l4 + 1), none] [] 137 h) : Wp mX10_listen (kR fr M1 M2) Q (b1, b2) 115 [zR 55, zR 51, x2, zI l3, zI l4, x5] [] 137 h := by
  refine s_fgt (fgt_c (fgt_c (fgt_n _ (fgt_c (fgt_c (fgt_n _ fgt_0)))))) ?_
  refine s_iinc (x := l4) dX10_listen_115 rfl rfl (by decide) ?_
  exact s_goto (tgt := 39) dX10_listen_118 (by decide) kk
theorem bX10_listen_121 {fr M1 M2 b1 b2 : Nat} {Q : RS → Nat → AH → Prop} {h : AH} {x0 x1 x2 x3 x4 x5 : AV}   (hq : Q (.inl (some (zI 1))) 137 h) : Wp mX10_listen (kR fr M1 M2) Q (b1, b2) 121 [x0, x1, x2, x3, x4, x5] [] 137 h := by
  refine s_fgt (fgt_n _ (fgt_n _ (fgt_n _ (fgt_n _ (fgt_n _ (fgt_n _ fgt_0)))))) ?_
  refine s_iconst dX10_listen_121 ?_
  exact s_ireturn dX10_listen_122 ⟨.boolean, rfl, by decide⟩ hq (fun z => by cases z)
theorem dX10_isLine_0 : decode mX10_isLine.cd 0 = .ok (.aload_n 0, 1) := by decide +kernel
theorem dX10_isLine_1 : decode mX10_isLine.cd 1 = .ok (.getfield 65, 3) := by decide +kernel
theorem dX10_isLine_4 : decode mX10_isLine.cd 4 = .ok (.aload_n 0, 1) := by decide +kernel
theorem dX10_isLine_5 : decode mX10_isLine.cd 5 = .ok (.getfield 98, 3) := by decide +kernel
theorem dX10_isLine_8 : decode mX10_isLine.cd 8 = .ok (.ishr, 1) := by decide +kernel
theorem dX10_isLine_9 : decode mX10_isLine.cd 9 = .ok (.iconst 1, 1) := by decide +kernel
theorem dX10_isLine_10 : decode mX10_isLine.cd 10 = .ok (.iand, 1) := by decide +kernel
theorem dX10_isLine_11 : decode mX10_isLine.cd 11 = .ok (.ifCond .ne 5, 3) := by decide +kernel
theorem dX10_isLine_14 : decode mX10_isLine.cd 14 = .ok (.iconst 0, 1) := by decide +kernel
theorem dX10_isLine_15 : decode mX10_isLine.cd 15 = .ok (.ireturn, 1) := by decide +kernel
theorem dX10_isLine_16 : decode mX10_isLine.cd 16 = .ok (.iconst 0, 1) := by decide +kernel
theorem dX10_isLine_17 : decode mX10_isLine.cd 17 = .ok (.istore_n 1, 1) := by decide +kernel
theorem dX10_isLine_18 : decode mX10_isLine.cd 18 = .ok (.iload_n 1, 1) := by decide +kernel
theorem dX10_isLine_19 : decode mX10_isLine.cd 19 = .ok (.aload_n 0, 1) := by decide +kernel
theorem dX10_isLine_20 : decode mX10_isLine.cd 20 = .ok (.getfield 14, 3) := by decide +kernel
theorem dX10_isLine_23 : decode mX10_isLine.cd 23 = .ok (.getfield 52, 3) := by decide +kernel
theorem dX10_isLine_26 : decode mX10_isLine.cd 26 = .ok (.if_icmp .ge 20, 3) := by decide +kernel
theorem dX10_isLine_29 : decode mX10_isLine.cd 29 = .ok (.aload_n 0, 1) := by decide +kernel
theorem dX10_isLine_30 : decode mX10_isLine.cd 30 = .ok (.getfield 43, 3) := by decide +kernel
theorem dX10_isLine_33 : decode mX10_isLine.cd 33 = .ok (.iload_n 1, 1) := by decide +kernel
theorem dX10_isLine_34 : decode mX10_isLine.cd 34 = .ok (.aload_n 0, 1) := by decide +kernel
theorem dX10_isLine_35 : decode mX10_isLine.cd 35 = .ok (.iload_n 1, 1) := by decide +kernel
theorem dX10_isLine_36 : decode mX10_isLine.cd 36 = .ok (.invokevirtual 119, 3) := by decide +kernel
theorem dX10_isLine_39 : decode mX10_isLine.cd 39 = .ok (.iastore, 1) := by decide +kernel
theorem dX10_isLine_40 : decode mX10_isLine.cd 40 = .ok (.iinc 1 1, 3) := by decide +kernel
theorem dX10_isLine_43 : decode mX10_isLine.cd 43 = .ok (.goto (-25), 3) := by decide +kernel
theorem dX10_isLine_46 : decode mX10_isLine.cd 46 = .ok (.iconst 0, 1) := by decide +kernel
theorem dX10_isLine_47 : decode mX10_isLine.cd 47 = .ok (.istore_n 1, 1) := by decide +kernel
theorem dX10_isLine_48 : decode mX10_isLine.cd 48 = .ok (.iload_n 1, 1) := by decide +kernel
theorem dX10_isLine_49 : decode mX10_isLine.cd 49 = .ok (.aload_n 0, 1) := by decide +kernel
theorem dX10_isLine_50 : decode mX10_isLine.cd 50 = .ok (.getfield 14, 3) := by decide +kernel
theorem dX10_isLine_53 : decode mX10_isLine.cd 53 = .ok (.getfield 68, 3) := by decide +kernel
theorem dX10_isLine_56 : decode mX10_isLine.cd 56 = .ok (.if_icmp .ge 68, 3) := by decide +kernel
theorem dX10_isLine_59 : decode mX10_isLine.cd 59 = .ok (.iconst 1, 1) := by decide +kernel
theorem dX10_isLine_60 : decode mX10_isLine.cd 60 = .ok (.istore_n 2, 1) := by decide +kernel
theorem dX10_isLine_61 : decode mX10_isLine.cd 61 = .ok (.iconst 0, 1) := by decide +kernel
theorem dX10_isLine_62 : decode mX10_isLine.cd 62 = .ok (.istore_n 3, 1) := by decide +kernel
theorem dX10_isLine_63 : decode mX10_isLine.cd 63 = .ok (.iload_n 3, 1) := by decide +kernel
theorem dX10_isLine_64 : decode mX10_isLine.cd 64 = .ok (.aload_n 0, 1) := by decide +kernel
theorem dX10_isLine_65 : decode mX10_isLine.cd 65 = .ok (.getfield 14, 3) := by decide +kernel
theorem dX10_isLine_68 : decode mX10_isLine.cd 68 = .ok (.getfield 78, 3) := by decide +kernel
theorem dX10_isLine_71 : decode mX10_isLine.cd 71 = .ok (.iload_n 1, 1) := by decide +kernel
theorem dX10_isLine_72 : decode mX10_isLine.cd 72 = .ok (.iaload, 1) := by decide +kernel
theorem dX10_isLine_73 : decode mX10_isLine.cd 73 = .ok (.if_icmp .ge 32, 3) := by decide +kernel
theorem dX10_isLine_76 : decode mX10_isLine.cd 76 = .ok (.iload_n 2, 1) := by decide +kernel
theorem dX10_isLine_77 : decode mX10_isLine.cd 77 = .ok (.ifCond .eq 28, 3) := by decide +kernel
theorem dX10_isLine_80 : decode mX10_isLine.cd 80 = .ok (.aload_n 0, 1) := by decide +kernel
theorem dX10_isLine_81 : decode mX10_isLine.cd 81 = .ok (.aload_n 0, 1) := by decide +kernel
theorem dX10_isLine_82 : decode mX10_isLine.cd 82 = .ok (.getfield 14, 3) := by decide +kernel
theorem dX10_isLine_85 : decode mX10_isLine.cd 85 = .ok (.getfield 81, 3) := by decide +kernel
theorem dX10_isLine_88 : decode mX10_isLine.cd 88 = .ok (.iload_n 1, 1) := by decide +kernel
theorem dX10_isLine_89 : decode mX10_isLine.cd 89 = .ok (.iconst 3, 1) := by decide +kernel
theorem dX10_isLine_90 : decode mX10_isLine.cd 90 = .ok (.imul, 1) := by decide +kernel
theorem dX10_isLine_91 : decode mX10_isLine.cd 91 = .ok (.iload_n 3, 1) := by decide +kernel
theorem dX10_isLine_92 : decode mX10_isLine.cd 92 = .ok (.iadd, 1) := by decide +kernel
theorem dX10_isLine_93 : decode mX10_isLine.cd 93 = .ok (.iaload, 1) := by decide +kernel
theorem dX10_isLine_94 : decode mX10_isLine.cd 94 = .ok (.iload_n 2, 1) := by decide +kernel
theorem dX10_isLine_95 : decode mX10_isLine.cd 95 = .ok (.invokevirtual 122, 3) := by decide +kernel
theorem dX10_isLine_98 : decode mX10_isLine.cd 98 = .ok (.istore_n 2, 1) := by decide +kernel
theorem dX10_isLine_99 : decode mX10_isLine.cd 99 = .ok (.iinc 3 1, 3) := by decide +kernel
theorem dX10_isLine_102 : decode mX10_isLine.cd 102 = .ok (.goto (-39), 3) := by decide +kernel
theorem dX10_isLine_105 : decode mX10_isLine.cd 105 = .ok (.iload_n 2, 1) := by decide +kernel
theorem dX10_isLine_106 : decode mX10_isLine.cd 106 = .ok (.aload_n 0, 1) := by decide +kernel
theorem dX10_isLine_107 : decode mX10_isLine.cd 107 = .ok (.getfield 98, 3) := by decide +kernel
theorem dX10_isLine_110 : decode mX10_isLine.cd 110 = .ok (.ishr, 1) := by decide +kernel
theorem dX10_isLine_111 : decode mX10_isLine.cd 111 = .ok (.iconst 1, 1) := by decide +kernel
theorem dX10_isLine_112 : decode mX10_isLine.cd 112 = .ok (.iand, 1) := by decide +kernel
theorem dX10_isLine_113 : decode mX10_isLine.cd 113 = .ok (.ifCond .eq 5, 3) := by decide +kernel
theorem dX10_isLine_116 : decode mX10_isLine.cd 116 = .ok (.iconst 1, 1) := by decide +kernel
theorem dX10_isLine_117 : decode mX10_isLine.cd 117 = .ok (.ireturn, 1) := by decide +kernel
theorem dX10_isLine_118 : decode mX10_isLine.cd 118 = .ok (.iinc 1 1, 3) := by decide +kernel
theorem dX10_isLine_121 : decode mX10_isLine.cd 121 = .ok (.goto (-73), 3) := by decide +kernel
theorem dX10_isLine_124 : decode mX10_isLine.cd 124 = .ok (.iconst 0, 1) := by decide +kernel
theorem dX10_isLine_125 : decode mX10_isLine.cd 125 = .ok (.ireturn, 1) := by decide +kernel
theorem bX10_isLine_0 {fr M1 M2 b1 b2 : Nat} {Q : RS → Nat → AH → Prop} {h : AH} {x1 x2 x3 : AV}  (r1 : 0 ≤ h 55 14 ∧ h 55 14 < 32 := by omega) (r2 : -2147483648 ≤ h 55 3 ∧ h 55 3 < 2147483648 := by omega) (r3 : -2147483648 ≤ bAnd ((h 55 3) / 2 ^ (h 55 14).toNat) 1 ∧ bAnd ((h 55 3) / 2 ^ (h 55 14).toNat) 1 < 2147483648 := by omega) (kt : ¬ bAnd ((h 55 3) / 2 ^ (h 55 14).toNat) 1 = 0 → Wp mX10_isLine (kR fr M1 M2) Q (b1, b2) 16 [zR 55, none, none, none] [] 137 h) (kf : bAnd ((h 55 3) / 2 ^ (h 55 14).toNat) 1 = 0 → Wp mX10_isLine (kR fr M1 M2) Q (b1, b2) 14 [zR 55, none, none, none] [] 137 h) : Wp mX10_isLine (kR fr M1 M2) Q (b1, b2) 0 [zR 55, x1, x2, x3] [] 137 h := by
  refine s_fgt (fgt_c (fgt_n _ (fgt_n _ (fgt_n _ fgt_0)))) ?_
  refine s_aload_n (x := 55) dX10_isLine_0 rfl ?_
  refine s_get (c := 55) dX10_isLine_1 lX10_65 e55 (by decide) ?_
  refine s_aload_n (x := 55) dX10_isLine_4 rfl ?_
  refine s_get (c := 55) dX10_isLine_5 lX10_98 e55 (by decide) ?_
  refine s_ishrN dX10_isLine_8 r2 r1.1 r1.2 ?_
  refine s_iconst dX10_isLine_9 ?_
  refine s_iand dX10_isLine_10 ?_
  exact s_if_ne (tgt := 16) dX10_isLine_11 (by decide) r3 kt kf
theorem bX10_isLine_14 {fr M1 M2 b1 b2 : Nat} {Q : RS → Nat → AH → Prop} {h : AH} {x0 x1 x2 x3 : AV}   (hq : Q (.inl (some (zI 0))) 137 h) : Wp mX10_isLine (kR fr M1 M2) Q (b1, b2) 14 [x0, x1, x2, x3] [] 137 h := by
  refine s_fgt (fgt_n _ (fgt_n _ (fgt_n _ (fgt_n _ fgt_0)))) ?_
  refine s_iconst dX10_isLine_14 ?_
  exact s_ireturn dX10_isLine_15 ⟨.boolean, rfl, by decide⟩ hq (fun z => by cases z)
theorem bX10_isLine_16 {fr M1 M2 b1 b2 : Nat} {Q : RS → Nat → AH → Prop} {h : AH} {x1 x2 x3 : AV}   (kk : Wp mX10_isLine (kR fr M1 M2) Q (b1, b2) 18 [zR 55, zI 0, none, none] [] 137 h) : Wp mX10_isLine (kR fr M1 M2) Q (b1, b2) 16 [zR 55, x1, x2, x3] [] 137 h := by
  refine s_fgt (fgt_c (fgt_n _ (fgt_n _ (fgt_n _ fgt_0)))) ?_
  refine s_iconst dX10_isLine_16 ?_
  refine s_istore_n dX10_isLine_17 rfl (by decide) ?_
  exact kk
theorem bX10_isLine_18 {fr M1 M2 b1 b2 : Nat} {Q : RS → Nat → AH → Prop} {h : AH} {l1 : Int} {x2 x3 : AV} (c1 : cel 137 (h 55 0) (2, 21) := by first | assumption | omega) (r1 : -2147483648 ≤ l1 ∧ l1 < 2147483648 := by omega) (r2 : -2147483648 ≤ h (h 55 0) 2 ∧ h (h 55 0) 2 < 2147483648 := by omega) (kt : h (h 55 0) 2 ≤ l1 → Wp mX10_isLine (kR fr M1 M2) Q (b1, b2) 46 [zR 55, zI l1, none, none] [] 137 h) (kf : l1 < h (h 55 0) 2 → Wp mX10_isLine (kR fr M1 M2) Q (b1, b2) 29 [zR 55, zI l1, none, none] [] 137 h) : Wp mX10_isLine (kR fr M1 M2) Q (b1, b2) 18 [zR 55, zI l1, x2, x3] [] 137 h := by
  refine s_fgt (fgt_c (fgt_c (fgt_n _ (fgt_n _ fgt_0)))) ?_
  refine s_iload_n (x := l1) dX10_isLine_18 rfl ?_
  refine s_aload_n (x := 55) dX10_isLine_19 rfl ?_
  refine s_getR (c := 55) dX10_isLine_20 lX10_14 e55 rfl ?_
  refine s_get (c := h 55 0) dX10_isLine_23 lX10_52 c1 (by decide) ?_
  exact s_icmp_ge (tgt := 46) dX10_isLine_26 (by decide) r1 r2 kt kf
theorem bX10_isLine_29 {fr M1 M2 b1 b2 : Nat} {Q : RS → Nat → AH → Prop} {h : AH} {l1 : Int} {x2 x3 : AV} {R : Int → AH → Prop}   (hS : Sp mX10_fittingPlaces true (fr - 1) 0 0 [zR 55, zI l1] 137 h (rI R)) (hf : 1 ≤ fr := by omega) (kk : ∀ (x : Int) (h' : AH), R x h' → Wp mX10_isLine (kR fr M1 M2) Q (b1, b2) 39 [zR 55, zI l1, none, none] [zI x, zI l1, zR 79] 137 h') : Wp mX10_isLine (kR fr M1 M2) Q (b1, b2) 29 [zR 55, zI l1, x2, x3] [] 137 h := by
  refine s_fgt (fgt_c (fgt_c (fgt_n _ (fgt_n _ fgt_0)))) ?_
  refine s_aload_n (x := 55) dX10_isLine_29 rfl ?_
  refine s_getFd (c := 55) (d := 79) dX10_isLine_30 lX10_43 e55 (Or.inl rfl) (by decide) (by decide) ?_
  refine s_iload_n (x := l1) dX10_isLine_33 rfl ?_
  refine s_aload_n (x := 55) dX10_isLine_34 rfl ?_
  refine s_iload_n (x := l1) dX10_isLine_35 rfl ?_
  exact s_callV (as := [zI l1]) (st := [zI l1, zR 79]) (o := 55) dX10_isLine_36 kX10_119 rfl ⟨10, 16, TX10, e55, rfl, by decide⟩ rfl rfl (Nat.le_of_ble_eq_true rfl) hS (show fr - 1 + 1 ≤ fr by omega) (Nat.zero_le _) (Nat.zero_le _) (fun v n' h' hP _ => by obtain ⟨x, e, rfl, hR⟩ := hP; cases e; exact kk x h' hR) (fun E n' h' _ z => (rI_nt _ _ _ z).elim)
theorem bX10_isLine_39 {fr M1 M2 b1 b2 : Nat} {Q : RS → Nat → AH → Prop} {h : AH} {l1 s2 s1 s0 : Int} {N1 : Nat} {x2 x3 : AV} (c1 : cel 137 s2 (100, N1) := by first | assumption | omega) (r1 : 0 ≤ s1 ∧ s1 < N1 := by omega) (kk : Wp mX10_isLine (kR fr M1 M2) Q (b1, b2) 18 [zR 55, zI (l1 + 1), none, none] [] 137 (up h s2 s1 s0)) : Wp mX10_isLine (kR fr M1 M2) Q (b1, b2) 39 [zR 55, zI l1, x2, x3] [zI s0, zI s1, zR s2] 137 h := by
  refine s_fgt (fgt_c (fgt_c (fgt_n _ (fgt_n _ fgt_0)))) ?_
  refine s_iast (c := s2) (i := s1) dX10_isLine_39 c1 r1.1 r1.2 ?_
  refine s_iinc (x := l1) dX10_isLine_40 rfl rfl (by decide) ?_
  exact s_goto (tgt := 18) dX10_isLine_43 (by decide) kk
theorem bX10_isLine_46 {fr M1 M2 b1 b2 : Nat} {Q : RS → Nat → AH → Prop} {h : AH} {x1 x2 x3 : AV}   (kk : Wp mX10_isLine (kR fr M1 M2) Q (b1, b2) 48 [zR 55, zI 0, none, none] [] 137 h) : Wp mX10_isLine (kR fr M1 M2) Q (b1, b2) 46 [zR 55, x1, x2, x3] [] 137 h := by
  refine s_fgt (fgt_c (fgt_n _ (fgt_n _ (fgt_n _ fgt_0)))) ?_
  refine s_iconst dX10_isLine_46 ?_
  refine s_istore_n dX10_isLine_47 rfl (by decide) ?_
  exact kk
theorem bX10_isLine_48 {fr M1 M2 b1 b2 : Nat} {Q : RS → Nat → AH → Prop} {h : AH} {l1 : Int} {x2 x3 : AV} (c1 : cel 137 (h 55 0) (2, 21) := by first | assumption | omega) (r1 : -2147483648 ≤ l1 ∧ l1 < 2147483648 := by omega) (r2 : -2147483648 ≤ h (h 55 0) 3 ∧ h (h 55 0) 3 < 2147483648 := by omega) (kt : h (h 55 0) 3 ≤ l1 → Wp mX10_isLine (kR fr M1 M2) Q (b1, b2) 124 [zR 55, zI l1, none, none] [] 137 h) (kf : l1 < h (h 55 0) 3 → Wp mX10_isLine (kR fr M1 M2) Q (b1, b2) 59 [zR 55, zI l1, none, none] [] 137 h) : Wp mX10_isLine (kR fr M1 M2) Q (b1, b2) 48 [zR 55, zI l1, x2, x3] [] 137 h := by
  refine s_fgt (fgt_c (fgt_c (fgt_n _ (fgt_n _ fgt_0)))) ?_
  refine s_iload_n (x := l1) dX10_isLine_48 rfl ?_
  refine s_aload_n (x := 55) dX10_isLine_49 rfl ?_
  refine s_getR (c := 55) dX10_isLine_50 lX10_14 e55 rfl ?_
  refine s_get (c := h 55 0) dX10_isLine_53 lX10_68 c1 (by decide) ?_
  exact s_icmp_ge (tgt := 124) dX10_isLine_56 (by decide) r1 r2 kt kf
theorem bX10_isLine_59 {fr M1 M2 b1 b2 : Nat} {Q : RS → Nat → AH → Prop} {h : AH} {l1 : Int} {x2 x3 : AV}   (kk : Wp mX10_isLine (kR fr M1 M2) Q (b1, b2) 63 [zR 55, zI l1, zI 1, zI 0] [] 137 h) : Wp mX10_isLine (kR fr M1 M2) Q (b1, b2) 59 [zR 55, zI l1, x2, x3] [] 137 h := by
  refine s_fgt (fgt_c (fgt_c (fgt_n _ (fgt_n _ fgt_0)))) ?_
  refine s_iconst dX10_isLine_59 ?_
  refine s_istore_n dX10_isLine_60 rfl (by decide) ?_
  refine s_iconst dX10_isLine_61 ?_
  refine s_istore_n dX10_isLine_62 rfl (by decide) ?_
  exact kk
theorem bX10_isLine_63 {fr M1 M2 b1 b2 : Nat} {Q : RS → Nat → AH → Prop} {h : AH} {l1 l2 l3 : Int} (c1 : cel 137 (h 55 0) (2, 21) := by first | assumption | omega) (r1 : 0 ≤ l1 ∧ l1 < 6 := by omega) (r2 : -2147483648 ≤ l3 ∧ l3 < 2147483648 := by omega) (r3 : -2147483648 ≤ h ((h 55 0) + 13) l1 ∧ h ((h 55 0) + 13) l1 < 2147483648 := by omega) (kt : h ((h 55 0) + 13) l1 ≤ l3 → Wp mX10_isLine (kR fr M1 M2) Q (b1, b2) 105 [zR 55, zI l1, zI l2, zI l3] [] 137 h) (kf : l3 < h ((h 55 0) + 13) l1 → Wp mX10_isLine (kR fr M1 M2) Q (b1, b2) 76 [zR 55, zI l1, zI l2, zI l3] [] 137 h) : Wp mX10_isLine (kR fr M1 M2) Q (b1, b2) 63 [zR 55, zI l1, zI l2, zI l3] [] 137 h := by
  refine s_iload_n (x := l3) dX10_isLine_63 rfl ?_
  refine s_aload_n (x := 55) dX10_isLine_64 rfl ?_
  refine s_getR (c := 55) dX10_isLine_65 lX10_14 e55 rfl ?_
  refine s_getFd (c := h 55 0) (d := (h 55 0) + 13) dX10_isLine_68 lX10_78 c1 (Or.inl rfl) rfl (ne0 (fin_X2_19 c1)) ?_
  refine s_iload_n (x := l1) dX10_isLine_71 rfl ?_
  refine s_iald (c := (h 55 0) + 13) (i := l1) dX10_isLine_72 (fin_X2_19 c1) r1.1 r1.2 ?_
  exact s_icmp_ge (tgt := 105) dX10_isLine_73 (by decide) r2 r3 kt kf
theorem bX10_isLine_76 {fr M1 M2 b1 b2 : Nat} {Q : RS → Nat → AH → Prop} {h : AH} {l1 l2 l3 : Int}  (r1 : -2147483648 ≤ l2 ∧ l2 < 2147483648 := by omega) (kt : l2 = 0 → Wp mX10_isLine (kR fr M1 M2) Q (b1, b2) 105 [zR 55, zI l1, zI l2, zI l3] [] 137 h) (kf : ¬ l2 = 0 → Wp mX10_isLine (kR fr M1 M2) Q (b1, b2) 80 [zR 55, zI l1, zI l2, zI l3] [] 137 h) : Wp mX10_isLine (kR fr M1 M2) Q (b1, b2) 76 [zR 55, zI l1, zI l2, zI l3] [] 137 h := by
  refine s_iload_n (x := l2) dX10_isLine_76 rfl ?_
  exact s_if_eq (tgt := 105) dX10_isLine_77 (by decide) r1 kt kf
theorem bX10_isLine_80 {fr M1 M2 b1 b2 : Nat} {Q : RS → Nat → AH → Prop} {h : AH} {l1 l2 l3 : Int} {R : Int → AH → Prop} (c1 : cel 137 (h 55 0) (2, 21) := by first | assumption | omega) (r1 : 0 ≤ (l1 * 3) + l3 ∧ (l1 * 3) + l3 < 18 := by omega) (hS : Sp mX10_layKind true (fr - 1) 0 0 [zR 55, zI (h ((h 55 0) + 14) ((l1 * 3) + l3)), zI l2] 137 h (rI R)) (hf : 1 ≤ fr := by omega) (kk : ∀ (x : Int) (h' : AH), R x h' → Wp mX10_isLine (kR fr M1 M2) Q (b1, b2) 98 [zR 55, zI l1, zI l2, zI l3] [zI x] 137 h') : Wp mX10_isLine (kR fr M1 M2) Q (b1, b2) 80 [zR 55, zI l1, zI l2, zI l3] [] 137 h := by
  refine s_aload_n (x := 55) dX10_isLine_80 rfl ?_
  refine s_aload_n (x := 55) dX10_isLine_81 rfl ?_
  refine s_getR (c := 55) dX10_isLine_82 lX10_14 e55 rfl ?_
  refine s_getFd (c := h 55 0) (d := (h 55 0) + 14) dX10_isLine_85 lX10_81 c1 (Or.inl rfl) rfl (ne0 (fin_X2_20 c1)) ?_
  refine s_iload_n (x := l1) dX10_isLine_88 rfl ?_
  refine s_iconst dX10_isLine_89 ?_
  refine s_imul dX10_isLine_90 ?_
  refine s_iload_n (x := l3) dX10_isLine_91 rfl ?_
  refine s_iadd dX10_isLine_92 ?_
  refine s_iald (c := (h 55 0) + 14) (i := (l1 * 3) + l3) dX10_isLine_93 (fin_X2_20 c1) r1.1 r1.2 ?_
  refine s_iload_n (x := l2) dX10_isLine_94 rfl ?_
  exact s_callV (as := [zI (h ((h 55 0) + 14) ((l1 * 3) + l3)), zI l2]) (st := []) (o := 55) dX10_isLine_95 kX10_122 rfl ⟨10, 16, TX10, e55, rfl, by decide⟩ rfl rfl (Nat.le_of_ble_eq_true rfl) hS (show fr - 1 + 1 ≤ fr by omega) (Nat.zero_le _) (Nat.zero_le _) (fun v n' h' hP _ => by obtain ⟨x, e, rfl, hR⟩ := hP; cases e; exact kk x h' hR) (fun E n' h' _ z => (rI_nt _ _ _ z).elim)
theorem bX10_isLine_98 {fr M1 M2 b1 b2 : Nat} {Q : RS → Nat → AH → Prop} {h : AH} {l1 l3 s0 : Int} {x2 : AV}   (kk : Wp mX10_isLine (kR fr M1 M2) Q (b1, b2) 63 [zR 55, zI l1, zI s0, zI (l3 + 1)] [] 137 h) : Wp mX10_isLine (kR fr M1 M2) Q (b1, b2) 98 [zR 55, zI l1, x2, zI l3] [zI s0] 137 h := by
  refine s_fgt (fgt_c (fgt_c (fgt_n _ (fgt_c fgt_0)))) ?_
  refine s_istore_n dX10_isLine_98 rfl (by decide) ?_
  refine s_iinc (x := l3) dX10_isLine_99 rfl rfl (by decide) ?_
  exact s_goto (tgt := 63) dX10_isLine_102 (by decide) kk
theorem bX10_isLine_105 {fr M1 M2 b1 b2 : Nat} {Q : RS → Nat → AH → Prop} {h : AH} {l1 l2 : Int} {x3 : AV}  (r1 : 0 ≤ h 55 14 ∧ h 55 14 < 32 := by omega) (r2 : -2147483648 ≤ l2 ∧ l2 < 2147483648 := by omega) (r3 : -2147483648 ≤ bAnd (l2 / 2 ^ (h 55 14).toNat) 1 ∧ bAnd (l2 / 2 ^ (h 55 14).toNat) 1 < 2147483648 := by omega) (kt : bAnd (l2 / 2 ^ (h 55 14).toNat) 1 = 0 → Wp mX10_isLine (kR fr M1 M2) Q (b1, b2) 118 [zR 55, zI l1, zI l2, none] [] 137 h) (kf : ¬ bAnd (l2 / 2 ^ (h 55 14).toNat) 1 = 0 → Wp mX10_isLine (kR fr M1 M2) Q (b1, b2) 116 [zR 55, zI l1, zI l2, none] [] 137 h) : Wp mX10_isLine (kR fr M1 M2) Q (b1, b2) 105 [zR 55, zI l1, zI l2, x3] [] 137 h := by
  refine s_fgt (fgt_c (fgt_c (fgt_c (fgt_n _ fgt_0)))) ?_
  refine s_iload_n (x := l2) dX10_isLine_105 rfl ?_
  refine s_aload_n (x := 55) dX10_isLine_106 rfl ?_
  refine s_get (c := 55) dX10_isLine_107 lX10_98 e55 (by decide) ?_
  refine s_ishrN dX10_isLine_110 r2 r1.1 r1.2 ?_
  refine s_iconst dX10_isLine_111 ?_
  refine s_iand dX10_isLine_112 ?_
  exact s_if_eq (tgt := 118) dX10_isLine_113 (by decide) r3 kt kf
theorem bX10_isLine_116 {fr M1 M2 b1 b2 : Nat} {Q : RS → Nat → AH → Prop} {h : AH} {x0 x1 x2 x3 : AV}   (hq : Q (.inl (some (zI 1))) 137 h) : Wp mX10_isLine (kR fr M1 M2) Q (b1, b2) 116 [x0, x1, x2, x3] [] 137 h := by
  refine s_fgt (fgt_n _ (fgt_n _ (fgt_n _ (fgt_n _ fgt_0)))) ?_
  refine s_iconst dX10_isLine_116 ?_
  exact s_ireturn dX10_isLine_117 ⟨.boolean, rfl, by decide⟩ hq (fun z => by cases z)
theorem bX10_isLine_118 {fr M1 M2 b1 b2 : Nat} {Q : RS → Nat → AH → Prop} {h : AH} {l1 : Int} {x2 x3 : AV}   (kk : Wp mX10_isLine (kR fr M1 M2) Q (b1, b2) 48 [zR 55, zI (l1 + 1), none, none] [] 137 h) : Wp mX10_isLine (kR fr M1 M2) Q (b1, b2) 118 [zR 55, zI l1, x2, x3] [] 137 h := by
  refine s_fgt (fgt_c (fgt_c (fgt_n _ (fgt_n _ fgt_0)))) ?_
  refine s_iinc (x := l1) dX10_isLine_118 rfl rfl (by decide) ?_
  exact s_goto (tgt := 48) dX10_isLine_121 (by decide) kk
theorem bX10_isLine_124 {fr M1 M2 b1 b2 : Nat} {Q : RS → Nat → AH → Prop} {h : AH} {x0 x1 x2 x3 : AV}   (hq : Q (.inl (some (zI 0))) 137 h) : Wp mX10_isLine (kR fr M1 M2) Q (b1, b2) 124 [x0, x1, x2, x3] [] 137 h := by
  refine s_fgt (fgt_n _ (fgt_n _ (fgt_n _ (fgt_n _ fgt_0)))) ?_
  refine s_iconst dX10_isLine_124 ?_
  exact s_ireturn dX10_isLine_125 ⟨.boolean, rfl, by decide⟩ hq (fun z => by cases z)
theorem dX10_layKind_0 : decode mX10_layKind.cd 0 = .ok (.iconst 0, 1) := by decide +kernel
theorem dX10_layKind_1 : decode mX10_layKind.cd 1 = .ok (.istore_n 3, 1) := by decide +kernel
theorem dX10_layKind_2 : decode mX10_layKind.cd 2 = .ok (.iconst 0, 1) := by decide +kernel
theorem dX10_layKind_3 : decode mX10_layKind.cd 3 = .ok (.istore 4, 2) := by decide +kernel
theorem dX10_layKind_5 : decode mX10_layKind.cd 5 = .ok (.iload 4, 2) := by decide +kernel
theorem dX10_layKind_7 : decode mX10_layKind.cd 7 = .ok (.aload_n 0, 1) := by decide +kernel
theorem dX10_layKind_8 : decode mX10_layKind.cd 8 = .ok (.getfield 18, 3) := by decide +kernel
theorem dX10_layKind_11 : decode mX10_layKind.cd 11 = .ok (.iload_n 1, 1) := by decide +kernel
theorem dX10_layKind_12 : decode mX10_layKind.cd 12 = .ok (.iaload, 1) := by decide +kernel
theorem dX10_layKind_13 : decode mX10_layKind.cd 13 = .ok (.if_icmp .ge 46, 3) := by decide +kernel
theorem dX10_layKind_16 : decode mX10_layKind.cd 16 = .ok (.aload_n 0, 1) := by decide +kernel
theorem dX10_layKind_17 : decode mX10_layKind.cd 17 = .ok (.getfield 22, 3) := by decide +kernel
theorem dX10_layKind_20 : decode mX10_layKind.cd 20 = .ok (.iload_n 1, 1) := by decide +kernel
theorem dX10_layKind_21 : decode mX10_layKind.cd 21 = .ok (.bipush 8, 2) := by decide +kernel
theorem dX10_layKind_23 : decode mX10_layKind.cd 23 = .ok (.imul, 1) := by decide +kernel
theorem dX10_layKind_24 : decode mX10_layKind.cd 24 = .ok (.iload 4, 2) := by decide +kernel
theorem dX10_layKind_26 : decode mX10_layKind.cd 26 = .ok (.iadd, 1) := by decide +kernel
theorem dX10_layKind_27 : decode mX10_layKind.cd 27 = .ok (.iaload, 1) := by decide +kernel
theorem dX10_layKind_28 : decode mX10_layKind.cd 28 = .ok (.istore 5, 2) := by decide +kernel
theorem dX10_layKind_30 : decode mX10_layKind.cd 30 = .ok (.iload_n 3, 1) := by decide +kernel
theorem dX10_layKind_31 : decode mX10_layKind.cd 31 = .ok (.iload_n 2, 1) := by decide +kernel
theorem dX10_layKind_32 : decode mX10_layKind.cd 32 = .ok (.aload_n 0, 1) := by decide +kernel
theorem dX10_layKind_33 : decode mX10_layKind.cd 33 = .ok (.getfield 43, 3) := by decide +kernel
theorem dX10_layKind_36 : decode mX10_layKind.cd 36 = .ok (.iload 5, 2) := by decide +kernel
theorem dX10_layKind_38 : decode mX10_layKind.cd 38 = .ok (.iaload, 1) := by decide +kernel
theorem dX10_layKind_39 : decode mX10_layKind.cd 39 = .ok (.iand, 1) := by decide +kernel
theorem dX10_layKind_40 : decode mX10_layKind.cd 40 = .ok (.aload_n 0, 1) := by decide +kernel
theorem dX10_layKind_41 : decode mX10_layKind.cd 41 = .ok (.getfield 14, 3) := by decide +kernel
theorem dX10_layKind_44 : decode mX10_layKind.cd 44 = .ok (.getfield 84, 3) := by decide +kernel
theorem dX10_layKind_47 : decode mX10_layKind.cd 47 = .ok (.iload 5, 2) := by decide +kernel
theorem dX10_layKind_49 : decode mX10_layKind.cd 49 = .ok (.iaload, 1) := by decide +kernel
theorem dX10_layKind_50 : decode mX10_layKind.cd 50 = .ok (.ishl, 1) := by decide +kernel
theorem dX10_layKind_51 : decode mX10_layKind.cd 51 = .ok (.ior, 1) := by decide +kernel
theorem dX10_layKind_52 : decode mX10_layKind.cd 52 = .ok (.istore_n 3, 1) := by decide +kernel
theorem dX10_layKind_53 : decode mX10_layKind.cd 53 = .ok (.iinc 4 1, 3) := by decide +kernel
theorem dX10_layKind_56 : decode mX10_layKind.cd 56 = .ok (.goto (-51), 3) := by decide +kernel
theorem dX10_layKind_59 : decode mX10_layKind.cd 59 = .ok (.iload_n 3, 1) := by decide +kernel
theorem dX10_layKind_60 : decode mX10_layKind.cd 60 = .ok (.ireturn, 1) := by decide +kernel
theorem bX10_layKind_0 {fr M1 M2 b1 b2 : Nat} {Q : RS → Nat → AH → Prop} {h : AH} {l1 l2 : Int} {x3 x4 x5 : AV}   (kk : Wp mX10_layKind (kR fr M1 M2) Q (b1, b2) 5 [zR 55, zI l1, zI l2, zI 0, zI 0, none] [] 137 h) : Wp mX10_layKind (kR fr M1 M2) Q (b1, b2) 0 [zR 55, zI l1, zI l2, x3, x4, x5] [] 137 h := by
  refine s_fgt (fgt_c (fgt_c (fgt_c (fgt_n _ (fgt_n _ (fgt_n _ fgt_0)))))) ?_
  refine s_iconst dX10_layKind_0 ?_
  refine s_istore_n dX10_layKind_1 rfl (by decide) ?_
  refine s_iconst dX10_layKind_2 ?_
  refine s_istore dX10_layKind_3 rfl (by decide) ?_
  exact kk
theorem bX10_layKind_5 {fr M1 M2 b1 b2 : Nat} {Q : RS → Nat → AH → Prop} {h : AH} {l1 l2 l3 l4 : Int} {x5 : AV}  (r1 : 0 ≤ l1 ∧ l1 < 4 := by omega) (r2 : -2147483648 ≤ l4 ∧ l4 < 2147483648 := by omega) (r3 : -2147483648 ≤ h 71 l1 ∧ h 71 l1 < 2147483648 := by omega) (kt : h 71 l1 ≤ l4 → Wp mX10_layKind (kR fr M1 M2) Q (b1, b2) 59 [zR 55, zI l1, zI l2, zI l3, zI l4, none] [] 137 h) (kf : l4 < h 71 l1 → Wp mX10_layKind (kR fr M1 M2) Q (b1, b2) 16 [zR 55, zI l1, zI l2, zI l3, zI l4, none] [] 137 h) : Wp mX10_layKind (kR fr M1 M2) Q (b1, b2) 5 [zR 55, zI l1, zI l2, zI l3, zI l4, x5] [] 137 h := by
  refine s_fgt (fgt_c (fgt_c (fgt_c (fgt_c (fgt_c (fgt_n _ fgt_0)))))) ?_
  refine s_iload (x := l4) dX10_layKind_5 rfl ?_
  refine s_aload_n (x := 55) dX10_layKind_7 rfl ?_
  refine s_getFd (c := 55) (d := 71) dX10_layKind_8 lX10_18 e55 (Or.inl rfl) (by decide) (by decide) ?_
  refine s_iload_n (x := l1) dX10_layKind_11 rfl ?_
  refine s_iald (c := 71) (i := l1) dX10_layKind_12 e71 r1.1 r1.2 ?_
  exact s_icmp_ge (tgt := 59) dX10_layKind_13 (by decide) r2 r3 kt kf
theorem bX10_layKind_16 {fr M1 M2 b1 b2 : Nat} {Q : RS → Nat → AH → Prop} {h : AH} {l1 l2 l3 l4 : Int} {x5 : AV} (c1 : cel 137 (h 55 0) (2, 21) := by first | assumption | omega) (r1 : 0 ≤ (l1 * 8) + l4 ∧ (l1 * 8) + l4 < 32 := by omega) (r2 : 0 ≤ h 72 ((l1 * 8) + l4) ∧ h 72 ((l1 * 8) + l4) < 8 := by omega) (r3 : 0 ≤ h ((h 55 0) + 11) (h 72 ((l1 * 8) + l4)) ∧ h ((h 55 0) + 11) (h 72 ((l1 * 8) + l4)) < 32 := by omega) (kk : Wp mX10_layKind (kR fr M1 M2) Q (b1, b2) 5 [zR 55, zI l1, zI l2, zI (bOr l3 ((bAnd l2 (h 79 (h 72 ((l1 * 8) + l4)))) * 2 ^ (h ((h 55 0) + 11) (h 72 ((l1 * 8) + l4))).toNat)), zI (l4 + 1), zI (h 72 ((l1 * 8) + l4))] [] 137 h) : Wp mX10_layKind (kR fr M1 M2) Q (b1, b2) 16 [zR 55, zI l1, zI l2, zI l3, zI l4, x5] [] 137 h := by
  refine s_fgt (fgt_c (fgt_c (fgt_c (fgt_c (fgt_c (fgt_n _ fgt_0)))))) ?_
  refine s_aload_n (x := 55) dX10_layKind_16 rfl ?_
  refine s_getFd (c := 55) (d := 72) dX10_layKind_17 lX10_22 e55 (Or.inl rfl) (by decide) (by decide) ?_
  refine s_iload_n (x := l1) dX10_layKind_20 rfl ?_
  refine s_bipush dX10_layKind_21 (by decide) ?_
  refine s_imul dX10_layKind_23 ?_
  refine s_iload (x := l4) dX10_layKind_24 rfl ?_
  refine s_iadd dX10_layKind_26 ?_
  refine s_iald (c := 72) (i := (l1 * 8) + l4) dX10_layKind_27 e72 r1.1 r1.2 ?_
  refine s_istore dX10_layKind_28 rfl (by decide) ?_
  refine s_iload_n (x := l3) dX10_layKind_30 rfl ?_
  refine s_iload_n (x := l2) dX10_layKind_31 rfl ?_
  refine s_aload_n (x := 55) dX10_layKind_32 rfl ?_
  refine s_getFd (c := 55) (d := 79) dX10_layKind_33 lX10_43 e55 (Or.inl rfl) (by decide) (by decide) ?_
  refine s_iload (x := h 72 ((l1 * 8) + l4)) dX10_layKind_36 rfl ?_
  refine s_iald (c := 79) (i := h 72 ((l1 * 8) + l4)) dX10_layKind_38 e79 r2.1 r2.2 ?_
  refine s_iand dX10_layKind_39 ?_
  refine s_aload_n (x := 55) dX10_layKind_40 rfl ?_
  refine s_getR (c := 55) dX10_layKind_41 lX10_14 e55 rfl ?_
  refine s_getFd (c := h 55 0) (d := (h 55 0) + 11) dX10_layKind_44 lX10_84 c1 (Or.inl rfl) rfl (ne0 (fin_X2_17 c1)) ?_
  refine s_iload (x := h 72 ((l1 * 8) + l4)) dX10_layKind_47 rfl ?_
  refine s_iald (c := (h 55 0) + 11) (i := h 72 ((l1 * 8) + l4)) dX10_layKind_49 (fin_X2_17 c1) r2.1 r2.2 ?_
  refine s_ishlN dX10_layKind_50 r3.1 r3.2 ?_
  refine s_ior dX10_layKind_51 ?_
  refine s_istore_n dX10_layKind_52 rfl (by decide) ?_
  refine s_iinc (x := l4) dX10_layKind_53 rfl rfl (by decide) ?_
  exact s_goto (tgt := 5) dX10_layKind_56 (by decide) kk
theorem bX10_layKind_59 {fr M1 M2 b1 b2 : Nat} {Q : RS → Nat → AH → Prop} {h : AH} {l3 : Int} {x0 x1 x2 x4 x5 : AV}   (hq : Q (.inl (some (zI l3))) 137 h) : Wp mX10_layKind (kR fr M1 M2) Q (b1, b2) 59 [x0, x1, x2, zI l3, x4, x5] [] 137 h := by
  refine s_fgt (fgt_n _ (fgt_n _ (fgt_n _ (fgt_c (fgt_n _ (fgt_n _ fgt_0)))))) ?_
  refine s_iload_n (x := l3) dX10_layKind_59 rfl ?_
  exact s_ireturn dX10_layKind_60 ⟨.int, rfl, rfl⟩ hq (fun z => by cases z)
theorem dX10_fittingPlaces_0 : decode mX10_fittingPlaces.cd 0 = .ok (.iconst 0, 1) := by decide +kernel
theorem dX10_fittingPlaces_1 : decode mX10_fittingPlaces.cd 1 = .ok (.istore_n 2, 1) := by decide +kernel
theorem dX10_fittingPlaces_2 : decode mX10_fittingPlaces.cd 2 = .ok (.iconst 0, 1) := by decide +kernel
theorem dX10_fittingPlaces_3 : decode mX10_fittingPlaces.cd 3 = .ok (.istore_n 3, 1) := by decide +kernel
theorem dX10_fittingPlaces_4 : decode mX10_fittingPlaces.cd 4 = .ok (.iload_n 3, 1) := by decide +kernel
theorem dX10_fittingPlaces_5 : decode mX10_fittingPlaces.cd 5 = .ok (.aload_n 0, 1) := by decide +kernel
theorem dX10_fittingPlaces_6 : decode mX10_fittingPlaces.cd 6 = .ok (.getfield 14, 3) := by decide +kernel
theorem dX10_fittingPlaces_9 : decode mX10_fittingPlaces.cd 9 = .ok (.getfield 84, 3) := by decide +kernel
theorem dX10_fittingPlaces_12 : decode mX10_fittingPlaces.cd 12 = .ok (.iload_n 1, 1) := by decide +kernel
theorem dX10_fittingPlaces_13 : decode mX10_fittingPlaces.cd 13 = .ok (.iaload, 1) := by decide +kernel
theorem dX10_fittingPlaces_14 : decode mX10_fittingPlaces.cd 14 = .ok (.iadd, 1) := by decide +kernel
theorem dX10_fittingPlaces_15 : decode mX10_fittingPlaces.cd 15 = .ok (.aload_n 0, 1) := by decide +kernel
theorem dX10_fittingPlaces_16 : decode mX10_fittingPlaces.cd 16 = .ok (.getfield 98, 3) := by decide +kernel
theorem dX10_fittingPlaces_19 : decode mX10_fittingPlaces.cd 19 = .ok (.if_icmp .gt 24, 3) := by decide +kernel
theorem dX10_fittingPlaces_22 : decode mX10_fittingPlaces.cd 22 = .ok (.aload_n 0, 1) := by decide +kernel
theorem dX10_fittingPlaces_23 : decode mX10_fittingPlaces.cd 23 = .ok (.iload_n 1, 1) := by decide +kernel
theorem dX10_fittingPlaces_24 : decode mX10_fittingPlaces.cd 24 = .ok (.iload_n 3, 1) := by decide +kernel
theorem dX10_fittingPlaces_25 : decode mX10_fittingPlaces.cd 25 = .ok (.invokevirtual 125, 3) := by decide +kernel
theorem dX10_fittingPlaces_28 : decode mX10_fittingPlaces.cd 28 = .ok (.ifCond .eq 9, 3) := by decide +kernel
theorem dX10_fittingPlaces_31 : decode mX10_fittingPlaces.cd 31 = .ok (.iload_n 2, 1) := by decide +kernel
theorem dX10_fittingPlaces_32 : decode mX10_fittingPlaces.cd 32 = .ok (.iconst 1, 1) := by decide +kernel
theorem dX10_fittingPlaces_33 : decode mX10_fittingPlaces.cd 33 = .ok (.iload_n 3, 1) := by decide +kernel
theorem dX10_fittingPlaces_34 : decode mX10_fittingPlaces.cd 34 = .ok (.ishl, 1) := by decide +kernel
theorem dX10_fittingPlaces_35 : decode mX10_fittingPlaces.cd 35 = .ok (.ior, 1) := by decide +kernel
theorem dX10_fittingPlaces_36 : decode mX10_fittingPlaces.cd 36 = .ok (.istore_n 2, 1) := by decide +kernel
theorem dX10_fittingPlaces_37 : decode mX10_fittingPlaces.cd 37 = .ok (.iinc 3 1, 3) := by decide +kernel
theorem dX10_fittingPlaces_40 : decode mX10_fittingPlaces.cd 40 = .ok (.goto (-36), 3) := by decide +kernel
theorem dX10_fittingPlaces_43 : decode mX10_fittingPlaces.cd 43 = .ok (.iload_n 2, 1) := by decide +kernel
theorem dX10_fittingPlaces_44 : decode mX10_fittingPlaces.cd 44 = .ok (.ireturn, 1) := by decide +kernel
theorem bX10_fittingPlaces_0 {fr M1 M2 b1 b2 : Nat} {Q : RS → Nat → AH → Prop} {h : AH} {l1 : Int} {x2 x3 : AV}   (kk : Wp mX10_fittingPlaces (kR fr M1 M2) Q (b1, b2) 4 [zR 55, zI l1, zI 0, zI 0] [] 137 h) : Wp mX10_fittingPlaces (kR fr M1 M2) Q (b1, b2) 0 [zR 55, zI l1, x2, x3] [] 137 h := by
  refine s_fgt (fgt_c (fgt_c (fgt_n _ (fgt_n _ fgt_0)))) ?_
  refine s_iconst dX10_fittingPlaces_0 ?_
  refine s_istore_n dX10_fittingPlaces_1 rfl (by decide) ?_
  refine s_iconst dX10_fittingPlaces_2 ?_
  refine s_istore_n dX10_fittingPlaces_3 rfl (by decide) ?_
  exact kk
theorem bX10_fittingPlaces_4 {fr M1 M2 b1 b2 : Nat} {Q : RS → Nat → AH → Prop} {h : AH} {l1 l2 l3 : Int} (c1 : cel 137 (h 55 0) (2, 21) := by first | assumption | omega) (r1 : 0 ≤ l1 ∧ l1 < 8 := by omega) (r2 : -2147483648 ≤ l3 + (h ((h 55 0) + 11) l1) ∧ l3 + (h ((h 55 0) + 11) l1) < 2147483648 := by omega) (r3 : -2147483648 ≤ h 55 14 ∧ h 55 14 < 2147483648 := by omega) (kt : h 55 14 < l3 + (h ((h 55 0) + 11) l1) → Wp mX10_fittingPlaces (kR fr M1 M2) Q (b1, b2) 43 [zR 55, zI l1, zI l2, zI l3] [] 137 h) (kf : l3 + (h ((h 55 0) + 11) l1) ≤ h 55 14 → Wp mX10_fittingPlaces (kR fr M1 M2) Q (b1, b2) 22 [zR 55, zI l1, zI l2, zI l3] [] 137 h) : Wp mX10_fittingPlaces (kR fr M1 M2) Q (b1, b2) 4 [zR 55, zI l1, zI l2, zI l3] [] 137 h := by
  refine s_iload_n (x := l3) dX10_fittingPlaces_4 rfl ?_
  refine s_aload_n (x := 55) dX10_fittingPlaces_5 rfl ?_
  refine s_getR (c := 55) dX10_fittingPlaces_6 lX10_14 e55 rfl ?_
  refine s_getFd (c := h 55 0) (d := (h 55 0) + 11) dX10_fittingPlaces_9 lX10_84 c1 (Or.inl rfl) rfl (ne0 (fin_X2_17 c1)) ?_
  refine s_iload_n (x := l1) dX10_fittingPlaces_12 rfl ?_
  refine s_iald (c := (h 55 0) + 11) (i := l1) dX10_fittingPlaces_13 (fin_X2_17 c1) r1.1 r1.2 ?_
  refine s_iadd dX10_fittingPlaces_14 ?_
  refine s_aload_n (x := 55) dX10_fittingPlaces_15 rfl ?_
  refine s_get (c := 55) dX10_fittingPlaces_16 lX10_98 e55 (by decide) ?_
  exact s_icmp_gt (tgt := 43) dX10_fittingPlaces_19 (by decide) r2 r3 kt kf
theorem bX10_fittingPlaces_22 {fr M1 M2 b1 b2 : Nat} {Q : RS → Nat → AH → Prop} {h : AH} {l1 l2 l3 : Int} {R : Int → AH → Prop}   (hS : Sp mX10_fitsAt true (fr - 1) 0 0 [zR 55, zI l1, zI l3] 137 h (rI R)) (hf : 1 ≤ fr := by omega) (kk : ∀ (x : Int) (h' : AH), R x h' → Wp mX10_fittingPlaces (kR fr M1 M2) Q (b1, b2) 28 [zR 55, zI l1, zI l2, zI l3] [zI x] 137 h') : Wp mX10_fittingPlaces (kR fr M1 M2) Q (b1, b2) 22 [zR 55, zI l1, zI l2, zI l3] [] 137 h := by
  refine s_aload_n (x := 55) dX10_fittingPlaces_22 rfl ?_
  refine s_iload_n (x := l1) dX10_fittingPlaces_23 rfl ?_
  refine s_iload_n (x := l3) dX10_fittingPlaces_24 rfl ?_
  exact s_callV (as := [zI l1, zI l3]) (st := []) (o := 55) dX10_fittingPlaces_25 kX10_125 rfl ⟨10, 16, TX10, e55, rfl, by decide⟩ rfl rfl (Nat.le_of_ble_eq_true rfl) hS (show fr - 1 + 1 ≤ fr by omega) (Nat.zero_le _) (Nat.zero_le _) (fun v n' h' hP _ => by obtain ⟨x, e, rfl, hR⟩ := hP; cases e; exact kk x h' hR) (fun E n' h' _ z => (rI_nt _ _ _ z).elim)
theorem bX10_fittingPlaces_28 {fr M1 M2 b1 b2 : Nat} {Q : RS → Nat → AH → Prop} {h : AH} {l1 l2 l3 s0 : Int}  (r1 : -2147483648 ≤ s0 ∧ s0 < 2147483648 := by omega) (kt : s0 = 0 → Wp mX10_fittingPlaces (kR fr M1 M2) Q (b1, b2) 37 [zR 55, zI l1, zI l2, zI l3] [] 137 h) (kf : ¬ s0 = 0 → Wp mX10_fittingPlaces (kR fr M1 M2) Q (b1, b2) 31 [zR 55, zI l1, zI l2, zI l3] [] 137 h) : Wp mX10_fittingPlaces (kR fr M1 M2) Q (b1, b2) 28 [zR 55, zI l1, zI l2, zI l3] [zI s0] 137 h := by
  exact s_if_eq (tgt := 37) dX10_fittingPlaces_28 (by decide) r1 kt kf
theorem bX10_fittingPlaces_31 {fr M1 M2 b1 b2 : Nat} {Q : RS → Nat → AH → Prop} {h : AH} {l1 l2 l3 : Int}  (r1 : 0 ≤ l3 ∧ l3 < 32 := by omega) (kk : Wp mX10_fittingPlaces (kR fr M1 M2) Q (b1, b2) 37 [zR 55, zI l1, zI (bOr l2 (1 * 2 ^ l3.toNat)), zI l3] [] 137 h) : Wp mX10_fittingPlaces (kR fr M1 M2) Q (b1, b2) 31 [zR 55, zI l1, zI l2, zI l3] [] 137 h := by
  refine s_iload_n (x := l2) dX10_fittingPlaces_31 rfl ?_
  refine s_iconst dX10_fittingPlaces_32 ?_
  refine s_iload_n (x := l3) dX10_fittingPlaces_33 rfl ?_
  refine s_ishlN dX10_fittingPlaces_34 r1.1 r1.2 ?_
  refine s_ior dX10_fittingPlaces_35 ?_
  refine s_istore_n dX10_fittingPlaces_36 rfl (by decide) ?_
  exact kk
theorem bX10_fittingPlaces_37 {fr M1 M2 b1 b2 : Nat} {Q : RS → Nat → AH → Prop} {h : AH} {l1 l2 l3 : Int}   (kk : Wp mX10_fittingPlaces (kR fr M1 M2) Q (b1, b2) 4 [zR 55, zI l1, zI l2, zI (l3 + 1)] [] 137 h) : Wp mX10_fittingPlaces (kR fr M1 M2) Q (b1, b2) 37 [zR 55, zI l1, zI l2, zI l3] [] 137 h := by
  refine s_iinc (x := l3) dX10_fittingPlaces_37 rfl rfl (by decide) ?_
  exact s_goto (tgt := 4) dX10_fittingPlaces_40 (by decide) kk
theorem bX10_fittingPlaces_43 {fr M1 M2 b1 b2 : Nat} {Q : RS → Nat → AH → Prop} {h : AH} {l2 : Int} {x0 x1 x3 : AV}   (hq : Q (.inl (some (zI l2))) 137 h) : Wp mX10_fittingPlaces (kR fr M1 M2) Q (b1, b2) 43 [x0, x1, zI l2, x3] [] 137 h := by
  refine s_fgt (fgt_n _ (fgt_n _ (fgt_c (fgt_n _ fgt_0)))) ?_
  refine s_iload_n (x := l2) dX10_fittingPlaces_43 rfl ?_
  exact s_ireturn dX10_fittingPlaces_44 ⟨.int, rfl, rfl⟩ hq (fun z => by cases z)
theorem dX10_fitsAt_0 : decode mX10_fitsAt.cd 0 = .ok (.iconst 0, 1) := by decide +kernel
theorem dX10_fitsAt_1 : decode mX10_fitsAt.cd 1 = .ok (.istore_n 3, 1) := by decide +kernel
theorem dX10_fitsAt_2 : decode mX10_fitsAt.cd 2 = .ok (.iload_n 3, 1) := by decide +kernel
theorem dX10_fitsAt_3 : decode mX10_fitsAt.cd 3 = .ok (.aload_n 0, 1) := by decide +kernel
theorem dX10_fitsAt_4 : decode mX10_fitsAt.cd 4 = .ok (.getfield 14, 3) := by decide +kernel
theorem dX10_fitsAt_7 : decode mX10_fitsAt.cd 7 = .ok (.getfield 84, 3) := by decide +kernel
theorem dX10_fitsAt_10 : decode mX10_fitsAt.cd 10 = .ok (.iload_n 1, 1) := by decide +kernel
theorem dX10_fitsAt_11 : decode mX10_fitsAt.cd 11 = .ok (.iaload, 1) := by decide +kernel
theorem dX10_fitsAt_12 : decode mX10_fitsAt.cd 12 = .ok (.if_icmp .ge 35, 3) := by decide +kernel
theorem dX10_fitsAt_15 : decode mX10_fitsAt.cd 15 = .ok (.aload_n 0, 1) := by decide +kernel
theorem dX10_fitsAt_16 : decode mX10_fitsAt.cd 16 = .ok (.getfield 40, 3) := by decide +kernel
theorem dX10_fitsAt_19 : decode mX10_fitsAt.cd 19 = .ok (.iload_n 2, 1) := by decide +kernel
theorem dX10_fitsAt_20 : decode mX10_fitsAt.cd 20 = .ok (.iload_n 3, 1) := by decide +kernel
theorem dX10_fitsAt_21 : decode mX10_fitsAt.cd 21 = .ok (.iadd, 1) := by decide +kernel
theorem dX10_fitsAt_22 : decode mX10_fitsAt.cd 22 = .ok (.iaload, 1) := by decide +kernel
theorem dX10_fitsAt_23 : decode mX10_fitsAt.cd 23 = .ok (.aload_n 0, 1) := by decide +kernel
theorem dX10_fitsAt_24 : decode mX10_fitsAt.cd 24 = .ok (.getfield 14, 3) := by decide +kernel
theorem dX10_fitsAt_27 : decode mX10_fitsAt.cd 27 = .ok (.getfield 95, 3) := by decide +kernel
theorem dX10_fitsAt_30 : decode mX10_fitsAt.cd 30 = .ok (.iload_n 1, 1) := by decide +kernel
theorem dX10_fitsAt_31 : decode mX10_fitsAt.cd 31 = .ok (.iconst 4, 1) := by decide +kernel
theorem dX10_fitsAt_32 : decode mX10_fitsAt.cd 32 = .ok (.imul, 1) := by decide +kernel
theorem dX10_fitsAt_33 : decode mX10_fitsAt.cd 33 = .ok (.iload_n 3, 1) := by decide +kernel
theorem dX10_fitsAt_34 : decode mX10_fitsAt.cd 34 = .ok (.iadd, 1) := by decide +kernel
theorem dX10_fitsAt_35 : decode mX10_fitsAt.cd 35 = .ok (.iaload, 1) := by decide +kernel
theorem dX10_fitsAt_36 : decode mX10_fitsAt.cd 36 = .ok (.if_icmp .eq 5, 3) := by decide +kernel
theorem dX10_fitsAt_39 : decode mX10_fitsAt.cd 39 = .ok (.iconst 0, 1) := by decide +kernel
theorem dX10_fitsAt_40 : decode mX10_fitsAt.cd 40 = .ok (.ireturn, 1) := by decide +kernel
theorem dX10_fitsAt_41 : decode mX10_fitsAt.cd 41 = .ok (.iinc 3 1, 3) := by decide +kernel
theorem dX10_fitsAt_44 : decode mX10_fitsAt.cd 44 = .ok (.goto (-42), 3) := by decide +kernel
theorem dX10_fitsAt_47 : decode mX10_fitsAt.cd 47 = .ok (.iconst 1, 1) := by decide +kernel
theorem dX10_fitsAt_48 : decode mX10_fitsAt.cd 48 = .ok (.ireturn, 1) := by decide +kernel
theorem bX10_fitsAt_0 {fr M1 M2 b1 b2 : Nat} {Q : RS → Nat → AH → Prop} {h : AH} {l1 l2 : Int} {x3 : AV}   (kk : Wp mX10_fitsAt (kR fr M1 M2) Q (b1, b2) 2 [zR 55, zI l1, zI l2, zI 0] [] 137 h) : Wp mX10_fitsAt (kR fr M1 M2) Q (b1, b2) 0 [zR 55, zI l1, zI l2, x3] [] 137 h := by
  refine s_fgt (fgt_c (fgt_c (fgt_c (fgt_n _ fgt_0)))) ?_
  refine s_iconst dX10_fitsAt_0 ?_
  refine s_istore_n dX10_fitsAt_1 rfl (by decide) ?_
  exact kk
theorem bX10_fitsAt_2 {fr M1 M2 b1 b2 : Nat} {Q : RS → Nat → AH → Prop} {h : AH} {l1 l2 l3 : Int} (c1 : cel 137 (h 55 0) (2, 21) := by first | assumption | omega) (r1 : 0 ≤ l1 ∧ l1 < 8 := by omega) (r2 : -2147483648 ≤ l3 ∧ l3 < 2147483648 := by omega) (r3 : -2147483648 ≤ h ((h 55 0) + 11) l1 ∧ h ((h 55 0) + 11) l1 < 2147483648 := by omega) (kt : h ((h 55 0) + 11) l1 ≤ l3 → Wp mX10_fitsAt (kR fr M1 M2) Q (b1, b2) 47 [zR 55, zI l1, zI l2, zI l3] [] 137 h) (kf : l3 < h ((h 55 0) + 11) l1 → Wp mX10_fitsAt (kR fr M1 M2) Q (b1, b2) 15 [zR 55, zI l1, zI l2, zI l3] [] 137 h) : Wp mX10_fitsAt (kR fr M1 M2) Q (b1, b2) 2 [zR 55, zI l1, zI l2, zI l3] [] 137 h := by
  refine s_iload_n (x := l3) dX10_fitsAt_2 rfl ?_
  refine s_aload_n (x := 55) dX10_fitsAt_3 rfl ?_
  refine s_getR (c := 55) dX10_fitsAt_4 lX10_14 e55 rfl ?_
  refine s_getFd (c := h 55 0) (d := (h 55 0) + 11) dX10_fitsAt_7 lX10_84 c1 (Or.inl rfl) rfl (ne0 (fin_X2_17 c1)) ?_
  refine s_iload_n (x := l1) dX10_fitsAt_10 rfl ?_
  refine s_iald (c := (h 55 0) + 11) (i := l1) dX10_fitsAt_11 (fin_X2_17 c1) r1.1 r1.2 ?_
  exact s_icmp_ge (tgt := 47) dX10_fitsAt_12 (by decide) r2 r3 kt kf
theorem bX10_fitsAt_15 {fr M1 M2 b1 b2 : Nat} {Q : RS → Nat → AH → Prop} {h : AH} {l1 l2 l3 : Int} (c1 : cel 137 (h 55 0) (2, 21) := by first | assumption | omega) (r1 : 0 ≤ l2 + l3 ∧ l2 + l3 < 12 := by omega) (r2 : 0 ≤ (l1 * 4) + l3 ∧ (l1 * 4) + l3 < 32 := by omega) (r3 : -2147483648 ≤ h 78 (l2 + l3) ∧ h 78 (l2 + l3) < 2147483648 := by omega) (r4 : -2147483648 ≤ h ((h 55 0) + 12) ((l1 * 4) + l3) ∧ h ((h 55 0) + 12) ((l1 * 4) + l3) < 2147483648 := by omega) (kt : h 78 (l2 + l3) = h ((h 55 0) + 12) ((l1 * 4) + l3) → Wp mX10_fitsAt (kR fr M1 M2) Q (b1, b2) 41 [zR 55, zI l1, zI l2, zI l3] [] 137 h) (kf : ¬ h 78 (l2 + l3) = h ((h 55 0) + 12) ((l1 * 4) + l3) → Wp mX10_fitsAt (kR fr M1 M2) Q (b1, b2) 39 [zR 55, zI l1, zI l2, zI l3] [] 137 h) : Wp mX10_fitsAt (kR fr M1 M2) Q (b1, b2) 15 [zR 55, zI l1, zI l2, zI l3] [] 137 h := by
  refine s_aload_n (x := 55) dX10_fitsAt_15 rfl ?_
  refine s_getFd (c := 55) (d := 78) dX10_fitsAt_16 lX10_40 e55 (Or.inl rfl) (by decide) (by decide) ?_
  refine s_iload_n (x := l2) dX10_fitsAt_19 rfl ?_
  refine s_iload_n (x := l3) dX10_fitsAt_20 rfl ?_
  refine s_iadd dX10_fitsAt_21 ?_
  refine s_iald (c := 78) (i := l2 + l3) dX10_fitsAt_22 e78 r1.1 r1.2 ?_
  refine s_aload_n (x := 55) dX10_fitsAt_23 rfl ?_
  refine s_getR (c := 55) dX10_fitsAt_24 lX10_14 e55 rfl ?_
  refine s_getFd (c := h 55 0) (d := (h 55 0) + 12) dX10_fitsAt_27 lX10_95 c1 (Or.inl rfl) rfl (ne0 (fin_X2_18 c1)) ?_
  refine s_iload_n (x := l1) dX10_fitsAt_30 rfl ?_
  refine s_iconst dX10_fitsAt_31 ?_
  refine s_imul dX10_fitsAt_32 ?_
  refine s_iload_n (x := l3) dX10_fitsAt_33 rfl ?_
  refine s_iadd dX10_fitsAt_34 ?_
  refine s_iald (c := (h 55 0) + 12) (i := (l1 * 4) + l3) dX10_fitsAt_35 (fin_X2_18 c1) r2.1 r2.2 ?_
  exact s_icmp_eq (tgt := 41) dX10_fitsAt_36 (by decide) r3 r4 kt kf
theorem bX10_fitsAt_39 {fr M1 M2 b1 b2 : Nat} {Q : RS → Nat → AH → Prop} {h : AH} {x0 x1 x2 x3 : AV}   (hq : Q (.inl (some (zI 0))) 137 h) : Wp mX10_fitsAt (kR fr M1 M2) Q (b1, b2) 39 [x0, x1, x2, x3] [] 137 h := by
  refine s_fgt (fgt_n _ (fgt_n _ (fgt_n _ (fgt_n _ fgt_0)))) ?_
  refine s_iconst dX10_fitsAt_39 ?_
  exact s_ireturn dX10_fitsAt_40 ⟨.boolean, rfl, by decide⟩ hq (fun z => by cases z)
theorem bX10_fitsAt_41 {fr M1 M2 b1 b2 : Nat} {Q : RS → Nat → AH → Prop} {h : AH} {l1 l2 l3 : Int}   (kk : Wp mX10_fitsAt (kR fr M1 M2) Q (b1, b2) 2 [zR 55, zI l1, zI l2, zI (l3 + 1)] [] 137 h) : Wp mX10_fitsAt (kR fr M1 M2) Q (b1, b2) 41 [zR 55, zI l1, zI l2, zI l3] [] 137 h := by
  refine s_iinc (x := l3) dX10_fitsAt_41 rfl rfl (by decide) ?_
  exact s_goto (tgt := 2) dX10_fitsAt_44 (by decide) kk
theorem bX10_fitsAt_47 {fr M1 M2 b1 b2 : Nat} {Q : RS → Nat → AH → Prop} {h : AH} {x0 x1 x2 x3 : AV}   (hq : Q (.inl (some (zI 1))) 137 h) : Wp mX10_fitsAt (kR fr M1 M2) Q (b1, b2) 47 [x0, x1, x2, x3] [] 137 h := by
  refine s_fgt (fgt_n _ (fgt_n _ (fgt_n _ (fgt_n _ fgt_0)))) ?_
  refine s_iconst dX10_fitsAt_47 ?_
  exact s_ireturn dX10_fitsAt_48 ⟨.boolean, rfl, by decide⟩ hq (fun z => by cases z)
theorem dX10_isEchoed_0 : decode mX10_isEchoed.cd 0 = .ok (.aload_n 0, 1) := by decide +kernel
theorem dX10_isEchoed_1 : decode mX10_isEchoed.cd 1 = .ok (.getfield 34, 3) := by decide +kernel
theorem dX10_isEchoed_4 : decode mX10_isEchoed.cd 4 = .ok (.iconst 0, 1) := by decide +kernel
theorem dX10_isEchoed_5 : decode mX10_isEchoed.cd 5 = .ok (.aload_n 0, 1) := by decide +kernel
theorem dX10_isEchoed_6 : decode mX10_isEchoed.cd 6 = .ok (.getfield 14, 3) := by decide +kernel
theorem dX10_isEchoed_9 : decode mX10_isEchoed.cd 9 = .ok (.getfield 78, 3) := by decide +kernel
theorem dX10_isEchoed_12 : decode mX10_isEchoed.cd 12 = .ok (.iload_n 1, 1) := by decide +kernel
theorem dX10_isEchoed_13 : decode mX10_isEchoed.cd 13 = .ok (.iaload, 1) := by decide +kernel
theorem dX10_isEchoed_14 : decode mX10_isEchoed.cd 14 = .ok (.iconst 1, 1) := by decide +kernel
theorem dX10_isEchoed_15 : decode mX10_isEchoed.cd 15 = .ok (.isub, 1) := by decide +kernel
theorem dX10_isEchoed_16 : decode mX10_isEchoed.cd 16 = .ok (.invokestatic 87, 3) := by decide +kernel
theorem dX10_isEchoed_19 : decode mX10_isEchoed.cd 19 = .ok (.iaload, 1) := by decide +kernel
theorem dX10_isEchoed_20 : decode mX10_isEchoed.cd 20 = .ok (.istore_n 2, 1) := by decide +kernel
theorem dX10_isEchoed_21 : decode mX10_isEchoed.cd 21 = .ok (.aload_n 0, 1) := by decide +kernel
theorem dX10_isEchoed_22 : decode mX10_isEchoed.cd 22 = .ok (.getfield 14, 3) := by decide +kernel
theorem dX10_isEchoed_25 : decode mX10_isEchoed.cd 25 = .ok (.getfield 84, 3) := by decide +kernel
theorem dX10_isEchoed_28 : decode mX10_isEchoed.cd 28 = .ok (.iload_n 2, 1) := by decide +kernel
theorem dX10_isEchoed_29 : decode mX10_isEchoed.cd 29 = .ok (.iaload, 1) := by decide +kernel
theorem dX10_isEchoed_30 : decode mX10_isEchoed.cd 30 = .ok (.aload_n 0, 1) := by decide +kernel
theorem dX10_isEchoed_31 : decode mX10_isEchoed.cd 31 = .ok (.getfield 98, 3) := by decide +kernel
theorem dX10_isEchoed_34 : decode mX10_isEchoed.cd 34 = .ok (.if_icmp .ne 16, 3) := by decide +kernel
theorem dX10_isEchoed_37 : decode mX10_isEchoed.cd 37 = .ok (.aload_n 0, 1) := by decide +kernel
theorem dX10_isEchoed_38 : decode mX10_isEchoed.cd 38 = .ok (.iload_n 2, 1) := by decide +kernel
theorem dX10_isEchoed_39 : decode mX10_isEchoed.cd 39 = .ok (.iconst 0, 1) := by decide +kernel
theorem dX10_isEchoed_40 : decode mX10_isEchoed.cd 40 = .ok (.invokevirtual 125, 3) := by decide +kernel
theorem dX10_isEchoed_43 : decode mX10_isEchoed.cd 43 = .ok (.ifCond .eq 7, 3) := by decide +kernel
theorem dX10_isEchoed_46 : decode mX10_isEchoed.cd 46 = .ok (.iconst 1, 1) := by decide +kernel
theorem dX10_isEchoed_47 : decode mX10_isEchoed.cd 47 = .ok (.goto 4, 3) := by decide +kernel
theorem dX10_isEchoed_50 : decode mX10_isEchoed.cd 50 = .ok (.iconst 0, 1) := by decide +kernel
theorem dX10_isEchoed_51 : decode mX10_isEchoed.cd 51 = .ok (.ireturn, 1) := by decide +kernel
theorem bX10_isEchoed_0 {fr M1 M2 b1 b2 : Nat} {Q : RS → Nat → AH → Prop} {h : AH} {l1 : Int} {x2 : AV} (c1 : cel 137 (h 55 0) (2, 21) := by first | assumption | omega) (c2 : cel 137 (h 55 0) (2, 21) := by first | assumption | omega) (r1 : 0 ≤ l1 ∧ l1 < 6 := by omega) (r2 : 1 ≤ fr := by omega) (r3 : -2147483648 ≤ (h ((h 55 0) + 13) l1) - 1 ∧ (h ((h 55 0) + 13) l1) - 1 < 2147483648 := by omega) (r4 : 0 ≤ max 0 ((h ((h 55 0) + 13) l1) - 1) ∧ max 0 ((h ((h 55 0) + 13) l1) - 1) < 3 := by omega) (r5 : 0 ≤ h 76 (max 0 ((h ((h 55 0) + 13) l1) - 1)) ∧ h 76 (max 0 ((h ((h 55 0) + 13) l1) - 1)) < 8 := by omega) (r6 : -2147483648 ≤ h ((h 55 0) + 11) (h 76 (max 0 ((h ((h 55 0) + 13) l1) - 1))) ∧ h ((h 55 0) + 11) (h 76 (max 0 ((h ((h 55 0) + 13) l1) - 1))) < 2147483648 := by omega) (r7 : -2147483648 ≤ h 55 14 ∧ h 55 14 < 2147483648 := by omega) (kt : ¬ h ((h 55 0) + 11) (h 76 (max 0 ((h ((h 55 0) + 13) l1) - 1))) = h 55 14 → Wp mX10_isEchoed (kR fr M1 M2) Q (b1, b2) 50 [zR 55, zI l1, zI (h 76 (max 0 ((h ((h 55 0) + 13) l1) - 1)))] [] 137 h) (kf : h ((h 55 0) + 11) (h 76 (max 0 ((h ((h 55 0) + 13) l1) - 1))) = h 55 14 → Wp mX10_isEchoed (kR fr M1 M2) Q (b1, b2) 37 [zR 55, zI l1, zI (h 76 (max 0 ((h ((h 55 0) + 13) l1) - 1)))] [] 137 h) : Wp mX10_isEchoed (kR fr M1 M2) Q (b1, b2) 0 [zR 55, zI l1, x2] [] 137 h := by
  refine s_fgt (fgt_c (fgt_c (fgt_n _ fgt_0))) ?_
  refine s_aload_n (x := 55) dX10_isEchoed_0 rfl ?_
  refine s_getFd (c := 55) (d := 76) dX10_isEchoed_1 lX10_34 e55 (Or.inl rfl) (by decide) (by decide) ?_
  refine s_iconst dX10_isEchoed_4 ?_
  refine s_aload_n (x := 55) dX10_isEchoed_5 rfl ?_
  refine s_getR (c := 55) dX10_isEchoed_6 lX10_14 e55 rfl ?_
  refine s_getFd (c := h 55 0) (d := (h 55 0) + 13) dX10_isEchoed_9 lX10_78 c1 (Or.inl rfl) rfl (ne0 (fin_X2_19 c1)) ?_
  refine s_iload_n (x := l1) dX10_isEchoed_12 rfl ?_
  refine s_iald (c := (h 55 0) + 13) (i := l1) dX10_isEchoed_13 (fin_X2_19 c1) r1.1 r1.2 ?_
  refine s_iconst dX10_isEchoed_14 ?_
  refine s_isub dX10_isEchoed_15 ?_
  refine s_mmax dX10_isEchoed_16 wd1000 wd953 wd19 wd954 r2 (Nat.le_of_ble_eq_true rfl) ⟨by decide, by decide⟩ r3 ?_
  refine s_iald (c := 76) (i := max 0 ((h ((h 55 0) + 13) l1) - 1)) dX10_isEchoed_19 e76 r4.1 r4.2 ?_
  refine s_istore_n dX10_isEchoed_20 rfl (by decide) ?_
  refine s_aload_n (x := 55) dX10_isEchoed_21 rfl ?_
  refine s_getR (c := 55) dX10_isEchoed_22 lX10_14 e55 rfl ?_
  refine s_getFd (c := h 55 0) (d := (h 55 0) + 11) dX10_isEchoed_25 lX10_84 c2 (Or.inl rfl) rfl (ne0 (fin_X2_17 c2)) ?_
  refine s_iload_n (x := h 76 (max 0 ((h ((h 55 0) + 13) l1) - 1))) dX10_isEchoed_28 rfl ?_
  refine s_iald (c := (h 55 0) + 11) (i := h 76 (max 0 ((h ((h 55 0) + 13) l1) - 1))) dX10_isEchoed_29 (fin_X2_17 c2) r5.1 r5.2 ?_
  refine s_aload_n (x := 55) dX10_isEchoed_30 rfl ?_
  refine s_get (c := 55) dX10_isEchoed_31 lX10_98 e55 (by decide) ?_
  exact s_icmp_ne (tgt := 50) dX10_isEchoed_34 (by decide) r6 r7 kt kf
theorem bX10_isEchoed_37 {fr M1 M2 b1 b2 : Nat} {Q : RS → Nat → AH → Prop} {h : AH} {l2 : Int} {x1 : AV} {R : Int → AH → Prop}   (hS : Sp mX10_fitsAt true (fr - 1) 0 0 [zR 55, zI l2, zI 0] 137 h (rI R)) (hf : 1 ≤ fr := by omega) (kk : ∀ (x : Int) (h' : AH), R x h' → Wp mX10_isEchoed (kR fr M1 M2) Q (b1, b2) 43 [zR 55, none, zI l2] [zI x] 137 h') : Wp mX10_isEchoed (kR fr M1 M2) Q (b1, b2) 37 [zR 55, x1, zI l2] [] 137 h := by
  refine s_fgt (fgt_c (fgt_n _ (fgt_c fgt_0))) ?_
  refine s_aload_n (x := 55) dX10_isEchoed_37 rfl ?_
  refine s_iload_n (x := l2) dX10_isEchoed_38 rfl ?_
  refine s_iconst dX10_isEchoed_39 ?_
  exact s_callV (as := [zI l2, zI 0]) (st := []) (o := 55) dX10_isEchoed_40 kX10_125 rfl ⟨10, 16, TX10, e55, rfl, by decide⟩ rfl rfl (Nat.le_of_ble_eq_true rfl) hS (show fr - 1 + 1 ≤ fr by omega) (Nat.zero_le _) (Nat.zero_le _) (fun v n' h' hP _ => by obtain ⟨x, e, rfl, hR⟩ := hP; cases e; exact kk x h' hR) (fun E n' h' _ z => (rI_nt _ _ _ z).elim)
theorem bX10_isEchoed_43 {fr M1 M2 b1 b2 : Nat} {Q : RS → Nat → AH → Prop} {h : AH} {s0 : Int} {x0 x1 x2 : AV}  (r1 : -2147483648 ≤ s0 ∧ s0 < 2147483648 := by omega) (kt : s0 = 0 → Wp mX10_isEchoed (kR fr M1 M2) Q (b1, b2) 50 [none, none, none] [] 137 h) (kf : ¬ s0 = 0 → Wp mX10_isEchoed (kR fr M1 M2) Q (b1, b2) 46 [none, none, none] [] 137 h) : Wp mX10_isEchoed (kR fr M1 M2) Q (b1, b2) 43 [x0, x1, x2] [zI s0] 137 h := by
  refine s_fgt (fgt_n _ (fgt_n _ (fgt_n _ fgt_0))) ?_
  exact s_if_eq (tgt := 50) dX10_isEchoed_43 (by decide) r1 kt kf
theorem bX10_isEchoed_46 {fr M1 M2 b1 b2 : Nat} {Q : RS → Nat → AH → Prop} {h : AH} {x0 x1 x2 : AV}   (kk : Wp mX10_isEchoed (kR fr M1 M2) Q (b1, b2) 51 [none, none, none] [zI 1] 137 h) : Wp mX10_isEchoed (kR fr M1 M2) Q (b1, b2) 46 [x0, x1, x2] [] 137 h := by
  refine s_fgt (fgt_n _ (fgt_n _ (fgt_n _ fgt_0))) ?_
  refine s_iconst dX10_isEchoed_46 ?_
  exact s_goto (tgt := 51) dX10_isEchoed_47 (by decide) kk
theorem bX10_isEchoed_50 {fr M1 M2 b1 b2 : Nat} {Q : RS → Nat → AH → Prop} {h : AH} {x0 x1 x2 : AV}   (kk : Wp mX10_isEchoed (kR fr M1 M2) Q (b1, b2) 51 [none, none, none] [zI 0] 137 h) : Wp mX10_isEchoed (kR fr M1 M2) Q (b1, b2) 50 [x0, x1, x2] [] 137 h := by
  refine s_fgt (fgt_n _ (fgt_n _ (fgt_n _ fgt_0))) ?_
  refine s_iconst dX10_isEchoed_50 ?_
  exact kk
theorem bX10_isEchoed_51 {fr M1 M2 b1 b2 : Nat} {Q : RS → Nat → AH → Prop} {h : AH} {s0 : Int} {x0 x1 x2 : AV}  (r1 : s0 = 0 ∨ s0 = 1 := by omega) (hq : Q (.inl (some (zI s0))) 137 h) : Wp mX10_isEchoed (kR fr M1 M2) Q (b1, b2) 51 [x0, x1, x2] [zI s0] 137 h := by
  refine s_fgt (fgt_n _ (fgt_n _ (fgt_n _ fgt_0))) ?_
  exact s_ireturn dX10_isEchoed_51 ⟨.boolean, rfl, bool_nar r1⟩ hq (fun z => by cases z)
theorem dX10_survey_0 : decode mX10_survey.cd 0 = .ok (.iconst 0, 1) := by decide +kernel
theorem dX10_survey_1 : decode mX10_survey.cd 1 = .ok (.istore 4, 2) := by decide +kernel
theorem dX10_survey_3 : decode mX10_survey.cd 3 = .ok (.iload 4, 2) := by decide +kernel
theorem dX10_survey_5 : decode mX10_survey.cd 5 = .ok (.iload_n 1, 1) := by decide +kernel
theorem dX10_survey_6 : decode mX10_survey.cd 6 = .ok (.if_icmp .ge 31, 3) := by decide +kernel
theorem dX10_survey_9 : decode mX10_survey.cd 9 = .ok (.aload_n 0, 1) := by decide +kernel
theorem dX10_survey_10 : decode mX10_survey.cd 10 = .ok (.getfield 14, 3) := by decide +kernel
theorem dX10_survey_13 : decode mX10_survey.cd 13 = .ok (.getfield 129, 3) := by decide +kernel
theorem dX10_survey_16 : decode mX10_survey.cd 16 = .ok (.iload 4, 2) := by decide +kernel
theorem dX10_survey_18 : decode mX10_survey.cd 18 = .ok (.iaload, 1) := by decide +kernel
theorem dX10_survey_19 : decode mX10_survey.cd 19 = .ok (.aload_n 0, 1) := by decide +kernel
theorem dX10_survey_20 : decode mX10_survey.cd 20 = .ok (.getfield 14, 3) := by decide +kernel
theorem dX10_survey_23 : decode mX10_survey.cd 23 = .ok (.getfield 129, 3) := by decide +kernel
theorem dX10_survey_26 : decode mX10_survey.cd 26 = .ok (.iload_n 1, 1) := by decide +kernel
theorem dX10_survey_27 : decode mX10_survey.cd 27 = .ok (.iaload, 1) := by decide +kernel
theorem dX10_survey_28 : decode mX10_survey.cd 28 = .ok (.if_icmp .eq 9, 3) := by decide +kernel
theorem dX10_survey_31 : decode mX10_survey.cd 31 = .ok (.iinc 4 1, 3) := by decide +kernel
theorem dX10_survey_34 : decode mX10_survey.cd 34 = .ok (.goto (-31), 3) := by decide +kernel
theorem dX10_survey_37 : decode mX10_survey.cd 37 = .ok (.iload 4, 2) := by decide +kernel
theorem dX10_survey_39 : decode mX10_survey.cd 39 = .ok (.bipush 6, 2) := by decide +kernel
theorem dX10_survey_41 : decode mX10_survey.cd 41 = .ok (.imul, 1) := by decide +kernel
theorem dX10_survey_42 : decode mX10_survey.cd 42 = .ok (.istore 5, 2) := by decide +kernel
theorem dX10_survey_44 : decode mX10_survey.cd 44 = .ok (.aload_n 0, 1) := by decide +kernel
theorem dX10_survey_45 : decode mX10_survey.cd 45 = .ok (.getfield 28, 3) := by decide +kernel
theorem dX10_survey_48 : decode mX10_survey.cd 48 = .ok (.iload 5, 2) := by decide +kernel
theorem dX10_survey_50 : decode mX10_survey.cd 50 = .ok (.iconst 0, 1) := by decide +kernel
theorem dX10_survey_51 : decode mX10_survey.cd 51 = .ok (.iadd, 1) := by decide +kernel
theorem dX10_survey_52 : decode mX10_survey.cd 52 = .ok (.iaload, 1) := by decide +kernel
theorem dX10_survey_53 : decode mX10_survey.cd 53 = .ok (.bipush (-2), 2) := by decide +kernel
theorem dX10_survey_55 : decode mX10_survey.cd 55 = .ok (.if_icmp .eq 6, 3) := by decide +kernel
theorem dX10_survey_58 : decode mX10_survey.cd 58 = .ok (.iload 4, 2) := by decide +kernel
theorem dX10_survey_60 : decode mX10_survey.cd 60 = .ok (.ireturn, 1) := by decide +kernel
theorem dX10_survey_61 : decode mX10_survey.cd 61 = .ok (.aload_n 3, 1) := by decide +kernel
theorem dX10_survey_62 : decode mX10_survey.cd 62 = .ok (.aload_n 0, 1) := by decide +kernel
theorem dX10_survey_63 : decode mX10_survey.cd 63 = .ok (.getfield 14, 3) := by decide +kernel
theorem dX10_survey_66 : decode mX10_survey.cd 66 = .ok (.iconst 0, 1) := by decide +kernel
theorem dX10_survey_67 : decode mX10_survey.cd 67 = .ok (.aload_n 0, 1) := by decide +kernel
theorem dX10_survey_68 : decode mX10_survey.cd 68 = .ok (.getfield 14, 3) := by decide +kernel
theorem dX10_survey_71 : decode mX10_survey.cd 71 = .ok (.getfield 129, 3) := by decide +kernel
theorem dX10_survey_74 : decode mX10_survey.cd 74 = .ok (.iload 4, 2) := by decide +kernel
theorem dX10_survey_76 : decode mX10_survey.cd 76 = .ok (.iaload, 1) := by decide +kernel
theorem dX10_survey_77 : decode mX10_survey.cd 77 = .ok (.iconst 0, 1) := by decide +kernel
theorem dX10_survey_78 : decode mX10_survey.cd 78 = .ok (.iconst (-1), 1) := by decide +kernel
theorem dX10_survey_79 : decode mX10_survey.cd 79 = .ok (.invokevirtual 132, 3) := by decide +kernel
theorem dX10_survey_82 : decode mX10_survey.cd 82 = .ok (.aload_n 0, 1) := by decide +kernel
theorem dX10_survey_83 : decode mX10_survey.cd 83 = .ok (.getfield 28, 3) := by decide +kernel
theorem dX10_survey_86 : decode mX10_survey.cd 86 = .ok (.iload 5, 2) := by decide +kernel
theorem dX10_survey_88 : decode mX10_survey.cd 88 = .ok (.iconst 0, 1) := by decide +kernel
theorem dX10_survey_89 : decode mX10_survey.cd 89 = .ok (.iadd, 1) := by decide +kernel
theorem dX10_survey_90 : decode mX10_survey.cd 90 = .ok (.iconst 0, 1) := by decide +kernel
theorem dX10_survey_91 : decode mX10_survey.cd 91 = .ok (.iastore, 1) := by decide +kernel
theorem dX10_survey_92 : decode mX10_survey.cd 92 = .ok (.aload_n 0, 1) := by decide +kernel
theorem dX10_survey_93 : decode mX10_survey.cd 93 = .ok (.getfield 28, 3) := by decide +kernel
theorem dX10_survey_96 : decode mX10_survey.cd 96 = .ok (.iload 5, 2) := by decide +kernel
theorem dX10_survey_98 : decode mX10_survey.cd 98 = .ok (.iconst 1, 1) := by decide +kernel
theorem dX10_survey_99 : decode mX10_survey.cd 99 = .ok (.iadd, 1) := by decide +kernel
theorem dX10_survey_100 : decode mX10_survey.cd 100 = .ok (.iconst 0, 1) := by decide +kernel
theorem dX10_survey_101 : decode mX10_survey.cd 101 = .ok (.iastore, 1) := by decide +kernel
theorem dX10_survey_102 : decode mX10_survey.cd 102 = .ok (.aload_n 0, 1) := by decide +kernel
theorem dX10_survey_103 : decode mX10_survey.cd 103 = .ok (.getfield 28, 3) := by decide +kernel
theorem dX10_survey_106 : decode mX10_survey.cd 106 = .ok (.iload 5, 2) := by decide +kernel
theorem dX10_survey_108 : decode mX10_survey.cd 108 = .ok (.iconst 2, 1) := by decide +kernel
theorem dX10_survey_109 : decode mX10_survey.cd 109 = .ok (.iadd, 1) := by decide +kernel
theorem dX10_survey_110 : decode mX10_survey.cd 110 = .ok (.iconst (-1), 1) := by decide +kernel
theorem dX10_survey_111 : decode mX10_survey.cd 111 = .ok (.iastore, 1) := by decide +kernel
theorem dX10_survey_112 : decode mX10_survey.cd 112 = .ok (.aload_n 0, 1) := by decide +kernel
theorem dX10_survey_113 : decode mX10_survey.cd 113 = .ok (.getfield 28, 3) := by decide +kernel
theorem dX10_survey_116 : decode mX10_survey.cd 116 = .ok (.iload 5, 2) := by decide +kernel
theorem dX10_survey_118 : decode mX10_survey.cd 118 = .ok (.iconst 3, 1) := by decide +kernel
theorem dX10_survey_119 : decode mX10_survey.cd 119 = .ok (.iadd, 1) := by decide +kernel
theorem dX10_survey_120 : decode mX10_survey.cd 120 = .ok (.iconst 0, 1) := by decide +kernel
theorem dX10_survey_121 : decode mX10_survey.cd 121 = .ok (.iastore, 1) := by decide +kernel
theorem dX10_survey_122 : decode mX10_survey.cd 122 = .ok (.aload_n 0, 1) := by decide +kernel
theorem dX10_survey_123 : decode mX10_survey.cd 123 = .ok (.getfield 28, 3) := by decide +kernel
theorem dX10_survey_126 : decode mX10_survey.cd 126 = .ok (.iload 5, 2) := by decide +kernel
theorem dX10_survey_128 : decode mX10_survey.cd 128 = .ok (.iconst 4, 1) := by decide +kernel
theorem dX10_survey_129 : decode mX10_survey.cd 129 = .ok (.iadd, 1) := by decide +kernel
theorem dX10_survey_130 : decode mX10_survey.cd 130 = .ok (.iconst (-1), 1) := by decide +kernel
theorem dX10_survey_131 : decode mX10_survey.cd 131 = .ok (.iastore, 1) := by decide +kernel
theorem dX10_survey_132 : decode mX10_survey.cd 132 = .ok (.iconst 0, 1) := by decide +kernel
theorem dX10_survey_133 : decode mX10_survey.cd 133 = .ok (.istore 6, 2) := by decide +kernel
theorem dX10_survey_135 : decode mX10_survey.cd 135 = .ok (.iload 6, 2) := by decide +kernel
theorem dX10_survey_137 : decode mX10_survey.cd 137 = .ok (.bipush 96, 2) := by decide +kernel
theorem dX10_survey_139 : decode mX10_survey.cd 139 = .ok (.if_icmp .ge 23, 3) := by decide +kernel
theorem dX10_survey_142 : decode mX10_survey.cd 142 = .ok (.aload_n 0, 1) := by decide +kernel
theorem dX10_survey_143 : decode mX10_survey.cd 143 = .ok (.getfield 31, 3) := by decide +kernel
theorem dX10_survey_146 : decode mX10_survey.cd 146 = .ok (.iload 4, 2) := by decide +kernel
theorem dX10_survey_148 : decode mX10_survey.cd 148 = .ok (.bipush 96, 2) := by decide +kernel
theorem dX10_survey_150 : decode mX10_survey.cd 150 = .ok (.imul, 1) := by decide +kernel
theorem dX10_survey_151 : decode mX10_survey.cd 151 = .ok (.iload 6, 2) := by decide +kernel
theorem dX10_survey_153 : decode mX10_survey.cd 153 = .ok (.iadd, 1) := by decide +kernel
theorem dX10_survey_154 : decode mX10_survey.cd 154 = .ok (.iconst 0, 1) := by decide +kernel
theorem dX10_survey_155 : decode mX10_survey.cd 155 = .ok (.iastore, 1) := by decide +kernel
theorem dX10_survey_156 : decode mX10_survey.cd 156 = .ok (.iinc 6 1, 3) := by decide +kernel
theorem dX10_survey_159 : decode mX10_survey.cd 159 = .ok (.goto (-24), 3) := by decide +kernel
theorem dX10_survey_162 : decode mX10_survey.cd 162 = .ok (.iconst 0, 1) := by decide +kernel
theorem dX10_survey_163 : decode mX10_survey.cd 163 = .ok (.istore 6, 2) := by decide +kernel
theorem dX10_survey_165 : decode mX10_survey.cd 165 = .ok (.iconst 0, 1) := by decide +kernel
theorem dX10_survey_166 : decode mX10_survey.cd 166 = .ok (.istore 7, 2) := by decide +kernel
theorem dX10_survey_168 : decode mX10_survey.cd 168 = .ok (.iload 7, 2) := by decide +kernel
theorem dX10_survey_170 : decode mX10_survey.cd 170 = .ok (.aload_n 0, 1) := by decide +kernel
theorem dX10_survey_171 : decode mX10_survey.cd 171 = .ok (.getfield 14, 3) := by decide +kernel
theorem dX10_survey_174 : decode mX10_survey.cd 174 = .ok (.getfield 68, 3) := by decide +kernel
theorem dX10_survey_177 : decode mX10_survey.cd 177 = .ok (.if_icmp .ge 33, 3) := by decide +kernel
theorem dX10_survey_180 : decode mX10_survey.cd 180 = .ok (.aload_n 0, 1) := by decide +kernel
theorem dX10_survey_181 : decode mX10_survey.cd 181 = .ok (.iload 4, 2) := by decide +kernel
theorem dX10_survey_183 : decode mX10_survey.cd 183 = .ok (.iload 7, 2) := by decide +kernel
theorem dX10_survey_185 : decode mX10_survey.cd 185 = .ok (.iload 6, 2) := by decide +kernel
theorem dX10_survey_187 : decode mX10_survey.cd 187 = .ok (.aload_n 2, 1) := by decide +kernel
theorem dX10_survey_188 : decode mX10_survey.cd 188 = .ok (.aload_n 3, 1) := by decide +kernel
theorem dX10_survey_189 : decode mX10_survey.cd 189 = .ok (.invokevirtual 136, 3) := by decide +kernel
theorem dX10_survey_192 : decode mX10_survey.cd 192 = .ok (.iload 6, 2) := by decide +kernel
theorem dX10_survey_194 : decode mX10_survey.cd 194 = .ok (.aload_n 0, 1) := by decide +kernel
theorem dX10_survey_195 : decode mX10_survey.cd 195 = .ok (.getfield 25, 3) := by decide +kernel
theorem dX10_survey_198 : decode mX10_survey.cd 198 = .ok (.iload 7, 2) := by decide +kernel
theorem dX10_survey_200 : decode mX10_survey.cd 200 = .ok (.iaload, 1) := by decide +kernel
theorem dX10_survey_201 : decode mX10_survey.cd 201 = .ok (.iadd, 1) := by decide +kernel
theorem dX10_survey_202 : decode mX10_survey.cd 202 = .ok (.istore 6, 2) := by decide +kernel
theorem dX10_survey_204 : decode mX10_survey.cd 204 = .ok (.iinc 7 1, 3) := by decide +kernel
theorem dX10_survey_207 : decode mX10_survey.cd 207 = .ok (.goto (-39), 3) := by decide +kernel
theorem dX10_survey_210 : decode mX10_survey.cd 210 = .ok (.iload 4, 2) := by decide +kernel
theorem dX10_survey_212 : decode mX10_survey.cd 212 = .ok (.ireturn, 1) := by decide +kernel
theorem bX10_survey_0 {fr M1 M2 b1 b2 : Nat} {Q : RS → Nat → AH → Prop} {h : AH} {l1 l3 : Int} {x4 x5 x6 x7 : AV}   (kk : Wp mX10_survey (kR fr M1 M2) Q (b1, b2) 3 [zR 55, zI l1, zR 51, zR l3, zI 0, none, none, none] [] 137 h) : Wp mX10_survey (kR fr M1 M2) Q (b1, b2) 0 [zR 55, zI l1, zR 51, zR l3, x4, x5, x6, x7] [] 137 h := by
  refine s_fgt (fgt_c (fgt_c (fgt_c (fgt_c (fgt_n _ (fgt_n _ (fgt_n _ (fgt_n _ fgt_0)))))))) ?_
  refine s_iconst dX10_survey_0 ?_
  refine s_istore dX10_survey_1 rfl (by decide) ?_
  exact kk
theorem bX10_survey_3 {fr M1 M2 b1 b2 : Nat} {Q : RS → Nat → AH → Prop} {h : AH} {l1 l3 l4 : Int} {x5 x6 x7 : AV}  (r1 : -2147483648 ≤ l4 ∧ l4 < 2147483648 := by omega) (r2 : -2147483648 ≤ l1 ∧ l1 < 2147483648 := by omega) (kt : l1 ≤ l4 → Wp mX10_survey (kR fr M1 M2) Q (b1, b2) 37 [zR 55, zI l1, zR 51, zR l3, zI l4, none, none, none] [] 137 h) (kf : l4 < l1 → Wp mX10_survey (kR fr M1 M2) Q (b1, b2) 9 [zR 55, zI l1, zR 51, zR l3, zI l4, none, none, none] [] 137 h) : Wp mX10_survey (kR fr M1 M2) Q (b1, b2) 3 [zR 55, zI l1, zR 51, zR l3, zI l4, x5, x6, x7] [] 137 h := by
  refine s_fgt (fgt_c (fgt_c (fgt_c (fgt_c (fgt_c (fgt_n _ (fgt_n _ (fgt_n _ fgt_0)))))))) ?_
  refine s_iload (x := l4) dX10_survey_3 rfl ?_
  refine s_iload_n (x := l1) dX10_survey_5 rfl ?_
  exact s_icmp_ge (tgt := 37) dX10_survey_6 (by decide) r1 r2 kt kf
theorem bX10_survey_9 {fr M1 M2 b1 b2 : Nat} {Q : RS → Nat → AH → Prop} {h : AH} {l1 l3 l4 : Int} {x5 x6 x7 : AV} (c1 : cel 137 (h 55 0) (2, 21) := by first | assumption | omega) (c2 : cel 137 (h 55 0) (2, 21) := by first | assumption | omega) (r1 : 0 ≤ l4 ∧ l4 < 24 := by omega) (r2 : 0 ≤ l1 ∧ l1 < 24 := by omega) (r3 : -2147483648 ≤ h ((h 55 0) + 9) l4 ∧ h ((h 55 0) + 9) l4 < 2147483648 := by omega) (r4 : -2147483648 ≤ h ((h 55 0) + 9) l1 ∧ h ((h 55 0) + 9) l1 < 2147483648 := by omega) (kt : h ((h 55 0) + 9) l4 = h ((h 55 0) + 9) l1 → Wp mX10_survey (kR fr M1 M2) Q (b1, b2) 37 [zR 55, zI l1, zR 51, zR l3, zI l4, none, none, none] [] 137 h) (kf : ¬ h ((h 55 0) + 9) l4 = h ((h 55 0) + 9) l1 → Wp mX10_survey (kR fr M1 M2) Q (b1, b2) 31 [zR 55, zI l1, zR 51, zR l3, zI l4, none, none, none] [] 137 h) : Wp mX10_survey (kR fr M1 M2) Q (b1, b2) 9 [zR 55, zI l1, zR 51, zR l3, zI l4, x5, x6, x7] [] 137 h := by
  refine s_fgt (fgt_c (fgt_c (fgt_c (fgt_c (fgt_c (fgt_n _ (fgt_n _ (fgt_n _ fgt_0)))))))) ?_
  refine s_aload_n (x := 55) dX10_survey_9 rfl ?_
  refine s_getR (c := 55) dX10_survey_10 lX10_14 e55 rfl ?_
  refine s_getFd (c := h 55 0) (d := (h 55 0) + 9) dX10_survey_13 lX10_129 c1 (Or.inl rfl) rfl (ne0 (fin_X2_15 c1)) ?_
  refine s_iload (x := l4) dX10_survey_16 rfl ?_
  refine s_iald (c := (h 55 0) + 9) (i := l4) dX10_survey_18 (fin_X2_15 c1) r1.1 r1.2 ?_
  refine s_aload_n (x := 55) dX10_survey_19 rfl ?_
  refine s_getR (c := 55) dX10_survey_20 lX10_14 e55 rfl ?_
  refine s_getFd (c := h 55 0) (d := (h 55 0) + 9) dX10_survey_23 lX10_129 c2 (Or.inl rfl) rfl (ne0 (fin_X2_15 c2)) ?_
  refine s_iload_n (x := l1) dX10_survey_26 rfl ?_
  refine s_iald (c := (h 55 0) + 9) (i := l1) dX10_survey_27 (fin_X2_15 c2) r2.1 r2.2 ?_
  exact s_icmp_eq (tgt := 37) dX10_survey_28 (by decide) r3 r4 kt kf
theorem bX10_survey_31 {fr M1 M2 b1 b2 : Nat} {Q : RS → Nat → AH → Prop} {h : AH} {l1 l3 l4 : Int} {x5 x6 x7 : AV}   (kk : Wp mX10_survey (kR fr M1 M2) Q (b1, b2) 3 [zR 55, zI l1, zR 51, zR l3, zI (l4 + 1), none, none, none] [] 137 h) : Wp mX10_survey (kR fr M1 M2) Q (b1, b2) 31 [zR 55, zI l1, zR 51, zR l3, zI l4, x5, x6, x7] [] 137 h := by
  refine s_fgt (fgt_c (fgt_c (fgt_c (fgt_c (fgt_c (fgt_n _ (fgt_n _ (fgt_n _ fgt_0)))))))) ?_
  refine s_iinc (x := l4) dX10_survey_31 rfl rfl (by decide) ?_
  exact s_goto (tgt := 3) dX10_survey_34 (by decide) kk
theorem bX10_survey_37 {fr M1 M2 b1 b2 : Nat} {Q : RS → Nat → AH → Prop} {h : AH} {l3 l4 : Int} {x1 x5 x6 x7 : AV}  (r1 : 0 ≤ (l4 * 6) + 0 ∧ (l4 * 6) + 0 < 144 := by omega) (r2 : -2147483648 ≤ h 74 ((l4 * 6) + 0) ∧ h 74 ((l4 * 6) + 0) < 2147483648 := by omega) (kt : h 74 ((l4 * 6) + 0) = (-2) → Wp mX10_survey (kR fr M1 M2) Q (b1, b2) 61 [zR 55, none, zR 51, zR l3, zI l4, zI (l4 * 6), none, none] [] 137 h) (kf : ¬ h 74 ((l4 * 6) + 0) = (-2) → Wp mX10_survey (kR fr M1 M2) Q (b1, b2) 58 [zR 55, none, zR 51, zR l3, zI l4, zI (l4 * 6), none, none] [] 137 h) : Wp mX10_survey (kR fr M1 M2) Q (b1, b2) 37 [zR 55, x1, zR 51, zR l3, zI l4, x5, x6, x7] [] 137 h := by
  refine s_fgt (fgt_c (fgt_n _ (fgt_c (fgt_c (fgt_c (fgt_n _ (fgt_n _ (fgt_n _ fgt_0)))))))) ?_
  refine s_iload (x := l4) dX10_survey_37 rfl ?_
  refine s_bipush dX10_survey_39 (by decide) ?_
  refine s_imul dX10_survey_41 ?_
  refine s_istore dX10_survey_42 rfl (by decide) ?_
  refine s_aload_n (x := 55) dX10_survey_44 rfl ?_
  refine s_getFd (c := 55) (d := 74) dX10_survey_45 lX10_28 e55 (Or.inl rfl) (by decide) (by decide) ?_
  refine s_iload (x := l4 * 6) dX10_survey_48 rfl ?_
  refine s_iconst dX10_survey_50 ?_
  refine s_iadd dX10_survey_51 ?_
  refine s_iald (c := 74) (i := (l4 * 6) + 0) dX10_survey_52 e74 r1.1 r1.2 ?_
  refine s_bipush dX10_survey_53 (by decide) ?_
  exact s_icmp_eq (tgt := 61) dX10_survey_55 (by decide) r2 ⟨by decide, by decide⟩ kt kf
theorem bX10_survey_58 {fr M1 M2 b1 b2 : Nat} {Q : RS → Nat → AH → Prop} {h : AH} {l4 : Int} {x0 x1 x2 x3 x5 x6 x7 : AV}   (hq : Q (.inl (some (zI l4))) 137 h) : Wp mX10_survey (kR fr M1 M2) Q (b1, b2) 58 [x0, x1, x2, x3, zI l4, x5, x6, x7] [] 137 h := by
  refine s_fgt (fgt_n _ (fgt_n _ (fgt_n _ (fgt_n _ (fgt_c (fgt_n _ (fgt_n _ (fgt_n _ fgt_0)))))))) ?_
  refine s_iload (x := l4) dX10_survey_58 rfl ?_
  exact s_ireturn dX10_survey_60 ⟨.int, rfl, rfl⟩ hq (fun z => by cases z)
theorem bX10_survey_61 {fr M1 M2 b1 b2 : Nat} {Q : RS → Nat → AH → Prop} {h : AH} {l3 l4 l5 : Int} {x1 x6 x7 : AV} {R : AH → Prop} (c1 : cel 137 (h 55 0) (2, 21) := by first | assumption | omega) (c2 : cel 137 l3 (7, 9) := by first | assumption | omega) (r1 : 0 ≤ l4 ∧ l4 < 24 := by omega) (hS : Sp mX7_build true (fr - 1) 0 0 [zR l3, zR (h 55 0), zI 0, zI (h ((h 55 0) + 9) l4), zI 0, zI (-1)] 137 h (rV R)) (hf : 1 ≤ fr := by omega) (kk : ∀ h' : AH, R h' → Wp mX10_survey (kR fr M1 M2) Q (b1, b2) 82 [zR 55, none, zR 51, zR l3, zI l4, zI l5, none, none] [] 137 h') : Wp mX10_survey (kR fr M1 M2) Q (b1, b2) 61 [zR 55, x1, zR 51, zR l3, zI l4, zI l5, x6, x7] [] 137 h := by
  refine s_fgt (fgt_c (fgt_n _ (fgt_c (fgt_c (fgt_c (fgt_c (fgt_n _ (fgt_n _ fgt_0)))))))) ?_
  refine s_aload_n (x := l3) dX10_survey_61 rfl ?_
  refine s_aload_n (x := 55) dX10_survey_62 rfl ?_
  refine s_getR (c := 55) dX10_survey_63 lX10_14 e55 rfl ?_
  refine s_iconst dX10_survey_66 ?_
  refine s_aload_n (x := 55) dX10_survey_67 rfl ?_
  refine s_getR (c := 55) dX10_survey_68 lX10_14 e55 rfl ?_
  refine s_getFd (c := h 55 0) (d := (h 55 0) + 9) dX10_survey_71 lX10_129 c1 (Or.inl rfl) rfl (ne0 (fin_X2_15 c1)) ?_
  refine s_iload (x := l4) dX10_survey_74 rfl ?_
  refine s_iald (c := (h 55 0) + 9) (i := l4) dX10_survey_76 (fin_X2_15 c1) r1.1 r1.2 ?_
  refine s_iconst dX10_survey_77 ?_
  refine s_iconst dX10_survey_78 ?_
  exact s_callV (as := [zR (h 55 0), zI 0, zI (h ((h 55 0) + 9) l4), zI 0, zI (-1)]) (st := []) (o := l3) dX10_survey_79 kX10_132 rfl ⟨7, 9, TX7, c2, rfl, by decide⟩ rfl rfl (Nat.le_of_ble_eq_true rfl) hS (show fr - 1 + 1 ≤ fr by omega) (Nat.zero_le _) (Nat.zero_le _) (fun v n' h' hP _ => by obtain ⟨e, rfl, hR⟩ := hP; cases e; exact kk h' hR) (fun E n' h' _ z => (rV_nt _ _ _ z).elim)
theorem bX10_survey_82 {fr M1 M2 b1 b2 : Nat} {Q : RS → Nat → AH → Prop} {h : AH} {l3 l4 l5 : Int} {x1 x6 x7 : AV}  (r1 : 0 ≤ l5 + 0 ∧ l5 + 0 < 144 := by omega) (r2 : 0 ≤ l5 + 1 ∧ l5 + 1 < 144 := by omega) (r3 : 0 ≤ l5 + 2 ∧ l5 + 2 < 144 := by omega) (r4 : 0 ≤ l5 + 3 ∧ l5 + 3 < 144 := by omega) (r5 : 0 ≤ l5 + 4 ∧ l5 + 4 < 144 := by omega) (kk : Wp mX10_survey (kR fr M1 M2) Q (b1, b2) 135 [zR 55, none, zR 51, zR l3, zI l4, zI l5, zI 0, none] [] 137 (up (up (up (up (up h 74 (l5 + 0) 0) 74 (l5 + 1) 0) 74 (l5 + 2) (-1)) 74 (l5 + 3) 0) 74 (l5 + 4) (-1))) : Wp mX10_survey (kR fr M1 M2) Q (b1, b2) 82 [zR 55, x1, zR 51, zR l3, zI l4, zI l5, x6, x7] [] 137 h := by
  refine s_fgt (fgt_c (fgt_n _ (fgt_c (fgt_c (fgt_c (fgt_c (fgt_n _ (fgt_n _ fgt_0)))))))) ?_
  refine s_aload_n (x := 55) dX10_survey_82 rfl ?_
  refine s_getFd (c := 55) (d := 74) dX10_survey_83 lX10_28 e55 (Or.inl rfl) (by decide) (by decide) ?_
  refine s_iload (x := l5) dX10_survey_86 rfl ?_
  refine s_iconst dX10_survey_88 ?_
  refine s_iadd dX10_survey_89 ?_
  refine s_iconst dX10_survey_90 ?_
  refine s_iast (c := 74) (i := l5 + 0) dX10_survey_91 e74 r1.1 r1.2 ?_
  refine s_aload_n (x := 55) dX10_survey_92 rfl ?_
  refine s_getFd (c := 55) (d := 74) dX10_survey_93 lX10_28 e55 (Or.inl rfl) (by decide) (by decide) ?_
  refine s_iload (x := l5) dX10_survey_96 rfl ?_
  refine s_iconst dX10_survey_98 ?_
  refine s_iadd dX10_survey_99 ?_
  refine s_iconst dX10_survey_100 ?_
  refine s_iast (c := 74) (i := l5 + 1) dX10_survey_101 e74 r2.1 r2.2 ?_
  refine s_aload_n (x := 55) dX10_survey_102 rfl ?_
  refine s_getFd (c := 55) (d := 74) dX10_survey_103 lX10_28 e55 (Or.inl rfl) (by decide) (by decide) ?_
  refine s_iload (x := l5) dX10_survey_106 rfl ?_
  refine s_iconst dX10_survey_108 ?_
  refine s_iadd dX10_survey_109 ?_
  refine s_iconst dX10_survey_110 ?_
  refine s_iast (c := 74) (i := l5 + 2) dX10_survey_111 e74 r3.1 r3.2 ?_
  refine s_aload_n (x := 55) dX10_survey_112 rfl ?_
  refine s_getFd (c := 55) (d := 74) dX10_survey_113 lX10_28 e55 (Or.inl rfl) (by decide) (by decide) ?_
  refine s_iload (x := l5) dX10_survey_116 rfl ?_
  refine s_iconst dX10_survey_118 ?_
  refine s_iadd dX10_survey_119 ?_
  refine s_iconst dX10_survey_120 ?_
  refine s_iast (c := 74) (i := l5 + 3) dX10_survey_121 e74 r4.1 r4.2 ?_
  refine s_aload_n (x := 55) dX10_survey_122 rfl ?_
  refine s_getFd (c := 55) (d := 74) dX10_survey_123 lX10_28 e55 (Or.inl rfl) (by decide) (by decide) ?_
  refine s_iload (x := l5) dX10_survey_126 rfl ?_
  refine s_iconst dX10_survey_128 ?_
  refine s_iadd dX10_survey_129 ?_
  refine s_iconst dX10_survey_130 ?_
  refine s_iast (c := 74) (i := l5 + 4) dX10_survey_131 e74 r5.1 r5.2 ?_
  refine s_iconst dX10_survey_132 ?_
  refine s_istore dX10_survey_133 rfl (by decide) ?_
  exact kk
theorem bX10_survey_135 {fr M1 M2 b1 b2 : Nat} {Q : RS → Nat → AH → Prop} {h : AH} {l3 l4 l6 : Int} {x1 x5 x7 : AV}  (r1 : -2147483648 ≤ l6 ∧ l6 < 2147483648 := by omega) (kt : 96 ≤ l6 → Wp mX10_survey (kR fr M1 M2) Q (b1, b2) 162 [zR 55, none, zR 51, zR l3, zI l4, none, zI l6, none] [] 137 h) (kf : l6 < 96 → Wp mX10_survey (kR fr M1 M2) Q (b1, b2) 142 [zR 55, none, zR 51, zR l3, zI l4, none, zI l6, none] [] 137 h) : Wp mX10_survey (kR fr M1 M2) Q (b1, b2) 135 [zR 55, x1, zR 51, zR l3, zI l4, x5, zI l6, x7] [] 137 h := by
  refine s_fgt (fgt_c (fgt_n _ (fgt_c (fgt_c (fgt_c (fgt_n _ (fgt_c (fgt_n _ fgt_0)))))))) ?_
  refine s_iload (x := l6) dX10_survey_135 rfl ?_
  refine s_bipush dX10_survey_137 (by decide) ?_
  exact s_icmp_ge (tgt := 162) dX10_survey_139 (by decide) r1 ⟨by decide, by decide⟩ kt kf
theorem bX10_survey_142 {fr M1 M2 b1 b2 : Nat} {Q : RS → Nat → AH → Prop} {h : AH} {l3 l4 l6 : Int} {x1 x5 x7 : AV}  (r1 : 0 ≤ (l4 * 96) + l6 ∧ (l4 * 96) + l6 < 2304 := by omega) (kk : Wp mX10_survey (kR fr M1 M2) Q (b1, b2) 135 [zR 55, none, zR 51, zR l3, zI l4, none, zI (l6 + 1), none] [] 137 (up h 75 ((l4 * 96) + l6) 0)) : Wp mX10_survey (kR fr M1 M2) Q (b1, b2) 142 [zR 55, x1, zR 51, zR l3, zI l4, x5, zI l6, x7] [] 137 h := by
  refine s_fgt (fgt_c (fgt_n _ (fgt_c (fgt_c (fgt_c (fgt_n _ (fgt_c (fgt_n _ fgt_0)))))))) ?_
  refine s_aload_n (x := 55) dX10_survey_142 rfl ?_
  refine s_getFd (c := 55) (d := 75) dX10_survey_143 lX10_31 e55 (Or.inl rfl) (by decide) (by decide) ?_
  refine s_iload (x := l4) dX10_survey_146 rfl ?_
  refine s_bipush dX10_survey_148 (by decide) ?_
  refine s_imul dX10_survey_150 ?_
  refine s_iload (x := l6) dX10_survey_151 rfl ?_
  refine s_iadd dX10_survey_153 ?_
  refine s_iconst dX10_survey_154 ?_
  refine s_iast (c := 75) (i := (l4 * 96) + l6) dX10_survey_155 e75 r1.1 r1.2 ?_
  refine s_iinc (x := l6) dX10_survey_156 rfl rfl (by decide) ?_
  exact s_goto (tgt := 135) dX10_survey_159 (by decide) kk
theorem bX10_survey_162 {fr M1 M2 b1 b2 : Nat} {Q : RS → Nat → AH → Prop} {h : AH} {l3 l4 : Int} {x1 x5 x6 x7 : AV}   (kk : Wp mX10_survey (kR fr M1 M2) Q (b1, b2) 168 [zR 55, none, zR 51, zR l3, zI l4, none, zI 0, zI 0] [] 137 h) : Wp mX10_survey (kR fr M1 M2) Q (b1, b2) 162 [zR 55, x1, zR 51, zR l3, zI l4, x5, x6, x7] [] 137 h := by
  refine s_fgt (fgt_c (fgt_n _ (fgt_c (fgt_c (fgt_c (fgt_n _ (fgt_n _ (fgt_n _ fgt_0)))))))) ?_
  refine s_iconst dX10_survey_162 ?_
  refine s_istore dX10_survey_163 rfl (by decide) ?_
  refine s_iconst dX10_survey_165 ?_
  refine s_istore dX10_survey_166 rfl (by decide) ?_
  exact kk
theorem bX10_survey_168 {fr M1 M2 b1 b2 : Nat} {Q : RS → Nat → AH → Prop} {h : AH} {l3 l4 l6 l7 : Int} {x1 x5 : AV} (c1 : cel 137 (h 55 0) (2, 21) := by first | assumption | omega) (r1 : -2147483648 ≤ l7 ∧ l7 < 2147483648 := by omega) (r2 : -2147483648 ≤ h (h 55 0) 3 ∧ h (h 55 0) 3 < 2147483648 := by omega) (kt : h (h 55 0) 3 ≤ l7 → Wp mX10_survey (kR fr M1 M2) Q (b1, b2) 210 [zR 55, none, zR 51, zR l3, zI l4, none, zI l6, zI l7] [] 137 h) (kf : l7 < h (h 55 0) 3 → Wp mX10_survey (kR fr M1 M2) Q (b1, b2) 180 [zR 55, none, zR 51, zR l3, zI l4, none, zI l6, zI l7] [] 137 h) : Wp mX10_survey (kR fr M1 M2) Q (b1, b2) 168 [zR 55, x1, zR 51, zR l3, zI l4, x5, zI l6, zI l7] [] 137 h := by
  refine s_fgt (fgt_c (fgt_n _ (fgt_c (fgt_c (fgt_c (fgt_n _ (fgt_c (fgt_c fgt_0)))))))) ?_
  refine s_iload (x := l7) dX10_survey_168 rfl ?_
  refine s_aload_n (x := 55) dX10_survey_170 rfl ?_
  refine s_getR (c := 55) dX10_survey_171 lX10_14 e55 rfl ?_
  refine s_get (c := h 55 0) dX10_survey_174 lX10_68 c1 (by decide) ?_
  exact s_icmp_ge (tgt := 210) dX10_survey_177 (by decide) r1 r2 kt kf
theorem bX10_survey_180 {fr M1 M2 b1 b2 : Nat} {Q : RS → Nat → AH → Prop} {h : AH} {l3 l4 l6 l7 : Int} {x1 x5 : AV} {R : AH → Prop}   (hS : Sp mX10_surveyForm true (fr - 1) 0 0 [zR 55, zI l4, zI l7, zI l6, zR 51, zR l3] 137 h (rV R)) (hf : 1 ≤ fr := by omega) (kk : ∀ h' : AH, R h' → Wp mX10_survey (kR fr M1 M2) Q (b1, b2) 192 [zR 55, none, zR 51, zR l3, zI l4, none, zI l6, zI l7] [] 137 h') : Wp mX10_survey (kR fr M1 M2) Q (b1, b2) 180 [zR 55, x1, zR 51, zR l3, zI l4, x5, zI l6, zI l7] [] 137 h := by
  refine s_fgt (fgt_c (fgt_n _ (fgt_c (fgt_c (fgt_c (fgt_n _ (fgt_c (fgt_c fgt_0)))))))) ?_
  refine s_aload_n (x := 55) dX10_survey_180 rfl ?_
  refine s_iload (x := l4) dX10_survey_181 rfl ?_
  refine s_iload (x := l7) dX10_survey_183 rfl ?_
  refine s_iload (x := l6) dX10_survey_185 rfl ?_
  refine s_aload_n (x := 51) dX10_survey_187 rfl ?_
  refine s_aload_n (x := l3) dX10_survey_188 rfl ?_
  exact s_callV (as := [zI l4, zI l7, zI l6, zR 51, zR l3]) (st := []) (o := 55) dX10_survey_189 kX10_136 rfl ⟨10, 16, TX10, e55, rfl, by decide⟩ rfl rfl (Nat.le_of_ble_eq_true rfl) hS (show fr - 1 + 1 ≤ fr by omega) (Nat.zero_le _) (Nat.zero_le _) (fun v n' h' hP _ => by obtain ⟨e, rfl, hR⟩ := hP; cases e; exact kk h' hR) (fun E n' h' _ z => (rV_nt _ _ _ z).elim)
theorem bX10_survey_192 {fr M1 M2 b1 b2 : Nat} {Q : RS → Nat → AH → Prop} {h : AH} {l3 l4 l6 l7 : Int} {x1 x5 : AV}  (r1 : 0 ≤ l7 ∧ l7 < 6 := by omega) (kk : Wp mX10_survey (kR fr M1 M2) Q (b1, b2) 168 [zR 55, none, zR 51, zR l3, zI l4, none, zI (l6 + (h 73 l7)), zI (l7 + 1)] [] 137 h) : Wp mX10_survey (kR fr M1 M2) Q (b1, b2) 192 [zR 55, x1, zR 51, zR l3, zI l4, x5, zI l6, zI l7] [] 137 h := by
  refine s_fgt (fgt_c (fgt_n _ (fgt_c (fgt_c (fgt_c (fgt_n _ (fgt_c (fgt_c fgt_0)))))))) ?_
  refine s_iload (x := l6) dX10_survey_192 rfl ?_
  refine s_aload_n (x := 55) dX10_survey_194 rfl ?_
  refine s_getFd (c := 55) (d := 73) dX10_survey_195 lX10_25 e55 (Or.inl rfl) (by decide) (by decide) ?_
  refine s_iload (x := l7) dX10_survey_198 rfl ?_
  refine s_iald (c := 73) (i := l7) dX10_survey_200 e73 r1.1 r1.2 ?_
  refine s_iadd dX10_survey_201 ?_
  refine s_istore dX10_survey_202 rfl (by decide) ?_
  refine s_iinc (x := l7) dX10_survey_204 rfl rfl (by decide) ?_
  exact s_goto (tgt := 168) dX10_survey_207 (by decide) kk
theorem bX10_survey_210 {fr M1 M2 b1 b2 : Nat} {Q : RS → Nat → AH → Prop} {h : AH} {l4 : Int} {x0 x1 x2 x3 x5 x6 x7 : AV}   (hq : Q (.inl (some (zI l4))) 137 h) : Wp mX10_survey (kR fr M1 M2) Q (b1, b2) 210 [x0, x1, x2, x3, zI l4, x5, x6, x7] [] 137 h := by
  refine s_fgt (fgt_n _ (fgt_n _ (fgt_n _ (fgt_n _ (fgt_c (fgt_n _ (fgt_n _ (fgt_n _ fgt_0)))))))) ?_
  refine s_iload (x := l4) dX10_survey_210 rfl ?_
  exact s_ireturn dX10_survey_212 ⟨.int, rfl, rfl⟩ hq (fun z => by cases z)
theorem dX10_surveyForm_0 : decode mX10_surveyForm.cd 0 = .ok (.iconst 1, 1) := by decide +kernel
theorem dX10_surveyForm_1 : decode mX10_surveyForm.cd 1 = .ok (.aload_n 0, 1) := by decide +kernel
theorem dX10_surveyForm_2 : decode mX10_surveyForm.cd 2 = .ok (.getfield 18, 3) := by decide +kernel
theorem dX10_surveyForm_5 : decode mX10_surveyForm.cd 5 = .ok (.aload_n 0, 1) := by decide +kernel
theorem dX10_surveyForm_6 : decode mX10_surveyForm.cd 6 = .ok (.getfield 14, 3) := by decide +kernel
theorem dX10_surveyForm_9 : decode mX10_surveyForm.cd 9 = .ok (.getfield 81, 3) := by decide +kernel
theorem dX10_surveyForm_12 : decode mX10_surveyForm.cd 12 = .ok (.iload_n 2, 1) := by decide +kernel
theorem dX10_surveyForm_13 : decode mX10_surveyForm.cd 13 = .ok (.iconst 3, 1) := by decide +kernel
theorem dX10_surveyForm_14 : decode mX10_surveyForm.cd 14 = .ok (.imul, 1) := by decide +kernel
theorem dX10_surveyForm_15 : decode mX10_surveyForm.cd 15 = .ok (.iaload, 1) := by decide +kernel
theorem dX10_surveyForm_16 : decode mX10_surveyForm.cd 16 = .ok (.iaload, 1) := by decide +kernel
theorem dX10_surveyForm_17 : decode mX10_surveyForm.cd 17 = .ok (.invokestatic 87, 3) := by decide +kernel
theorem dX10_surveyForm_20 : decode mX10_surveyForm.cd 20 = .ok (.istore 6, 2) := by decide +kernel
theorem dX10_surveyForm_22 : decode mX10_surveyForm.cd 22 = .ok (.aload_n 0, 1) := by decide +kernel
theorem dX10_surveyForm_23 : decode mX10_surveyForm.cd 23 = .ok (.getfield 25, 3) := by decide +kernel
theorem dX10_surveyForm_26 : decode mX10_surveyForm.cd 26 = .ok (.iload_n 2, 1) := by decide +kernel
theorem dX10_surveyForm_27 : decode mX10_surveyForm.cd 27 = .ok (.iaload, 1) := by decide +kernel
theorem dX10_surveyForm_28 : decode mX10_surveyForm.cd 28 = .ok (.iload 6, 2) := by decide +kernel
theorem dX10_surveyForm_30 : decode mX10_surveyForm.cd 30 = .ok (.idiv, 1) := by decide +kernel
theorem dX10_surveyForm_31 : decode mX10_surveyForm.cd 31 = .ok (.istore 7, 2) := by decide +kernel
theorem dX10_surveyForm_33 : decode mX10_surveyForm.cd 33 = .ok (.iconst 0, 1) := by decide +kernel
theorem dX10_surveyForm_34 : decode mX10_surveyForm.cd 34 = .ok (.istore 8, 2) := by decide +kernel
theorem dX10_surveyForm_36 : decode mX10_surveyForm.cd 36 = .ok (.iconst 0, 1) := by decide +kernel
theorem dX10_surveyForm_37 : decode mX10_surveyForm.cd 37 = .ok (.istore 9, 2) := by decide +kernel
theorem dX10_surveyForm_39 : decode mX10_surveyForm.cd 39 = .ok (.iload 9, 2) := by decide +kernel
theorem dX10_surveyForm_41 : decode mX10_surveyForm.cd 41 = .ok (.iload 6, 2) := by decide +kernel
theorem dX10_surveyForm_43 : decode mX10_surveyForm.cd 43 = .ok (.if_icmp .ge 89, 3) := by decide +kernel
theorem dX10_surveyForm_46 : decode mX10_surveyForm.cd 46 = .ok (.iconst 0, 1) := by decide +kernel
theorem dX10_surveyForm_47 : decode mX10_surveyForm.cd 47 = .ok (.istore 10, 2) := by decide +kernel
theorem dX10_surveyForm_49 : decode mX10_surveyForm.cd 49 = .ok (.iconst 0, 1) := by decide +kernel
theorem dX10_surveyForm_50 : decode mX10_surveyForm.cd 50 = .ok (.istore 11, 2) := by decide +kernel
theorem dX10_surveyForm_52 : decode mX10_surveyForm.cd 52 = .ok (.iload 11, 2) := by decide +kernel
theorem dX10_surveyForm_54 : decode mX10_surveyForm.cd 54 = .ok (.iload 7, 2) := by decide +kernel
theorem dX10_surveyForm_56 : decode mX10_surveyForm.cd 56 = .ok (.if_icmp .ge 45, 3) := by decide +kernel
theorem dX10_surveyForm_59 : decode mX10_surveyForm.cd 59 = .ok (.aload_n 0, 1) := by decide +kernel
theorem dX10_surveyForm_60 : decode mX10_surveyForm.cd 60 = .ok (.iload_n 2, 1) := by decide +kernel
theorem dX10_surveyForm_61 : decode mX10_surveyForm.cd 61 = .ok (.iload 8, 2) := by decide +kernel
theorem dX10_surveyForm_63 : decode mX10_surveyForm.cd 63 = .ok (.invokevirtual 140, 3) := by decide +kernel
theorem dX10_surveyForm_66 : decode mX10_surveyForm.cd 66 = .ok (.aload_n 0, 1) := by decide +kernel
theorem dX10_surveyForm_67 : decode mX10_surveyForm.cd 67 = .ok (.aload 4, 2) := by decide +kernel
theorem dX10_surveyForm_69 : decode mX10_surveyForm.cd 69 = .ok (.aload 5, 2) := by decide +kernel
theorem dX10_surveyForm_71 : decode mX10_surveyForm.cd 71 = .ok (.invokevirtual 144, 3) := by decide +kernel
theorem dX10_surveyForm_74 : decode mX10_surveyForm.cd 74 = .ok (.ifCond .eq 18, 3) := by decide +kernel
theorem dX10_surveyForm_77 : decode mX10_surveyForm.cd 77 = .ok (.iload 10, 2) := by decide +kernel
theorem dX10_surveyForm_79 : decode mX10_surveyForm.cd 79 = .ok (.aload_n 0, 1) := by decide +kernel
theorem dX10_surveyForm_80 : decode mX10_surveyForm.cd 80 = .ok (.iload_n 1, 1) := by decide +kernel
theorem dX10_surveyForm_81 : decode mX10_surveyForm.cd 81 = .ok (.iload_n 2, 1) := by decide +kernel
theorem dX10_surveyForm_82 : decode mX10_surveyForm.cd 82 = .ok (.iload_n 3, 1) := by decide +kernel
theorem dX10_surveyForm_83 : decode mX10_surveyForm.cd 83 = .ok (.iload 8, 2) := by decide +kernel
theorem dX10_surveyForm_85 : decode mX10_surveyForm.cd 85 = .ok (.iadd, 1) := by decide +kernel
theorem dX10_surveyForm_86 : decode mX10_surveyForm.cd 86 = .ok (.invokevirtual 148, 3) := by decide +kernel
theorem dX10_surveyForm_89 : decode mX10_surveyForm.cd 89 = .ok (.iadd, 1) := by decide +kernel
theorem dX10_surveyForm_90 : decode mX10_surveyForm.cd 90 = .ok (.istore 10, 2) := by decide +kernel
theorem dX10_surveyForm_92 : decode mX10_surveyForm.cd 92 = .ok (.iinc 8 1, 3) := by decide +kernel
theorem dX10_surveyForm_95 : decode mX10_surveyForm.cd 95 = .ok (.iinc 11 1, 3) := by decide +kernel
theorem dX10_surveyForm_98 : decode mX10_surveyForm.cd 98 = .ok (.goto (-46), 3) := by decide +kernel
theorem dX10_surveyForm_101 : decode mX10_surveyForm.cd 101 = .ok (.iload 10, 2) := by decide +kernel
theorem dX10_surveyForm_103 : decode mX10_surveyForm.cd 103 = .ok (.ifCond .ne 23, 3) := by decide +kernel
theorem dX10_surveyForm_106 : decode mX10_surveyForm.cd 106 = .ok (.iload 7, 2) := by decide +kernel
theorem dX10_surveyForm_108 : decode mX10_surveyForm.cd 108 = .ok (.ifCond .le 18, 3) := by decide +kernel
theorem dX10_surveyForm_111 : decode mX10_surveyForm.cd 111 = .ok (.aload_n 0, 1) := by decide +kernel
theorem dX10_surveyForm_112 : decode mX10_surveyForm.cd 112 = .ok (.getfield 28, 3) := by decide +kernel
theorem dX10_surveyForm_115 : decode mX10_surveyForm.cd 115 = .ok (.iload_n 1, 1) := by decide +kernel
theorem dX10_surveyForm_116 : decode mX10_surveyForm.cd 116 = .ok (.bipush 6, 2) := by decide +kernel
theorem dX10_surveyForm_118 : decode mX10_surveyForm.cd 118 = .ok (.imul, 1) := by decide +kernel
theorem dX10_surveyForm_119 : decode mX10_surveyForm.cd 119 = .ok (.iconst 3, 1) := by decide +kernel
theorem dX10_surveyForm_120 : decode mX10_surveyForm.cd 120 = .ok (.iadd, 1) := by decide +kernel
theorem dX10_surveyForm_121 : decode mX10_surveyForm.cd 121 = .ok (.dup2, 1) := by decide +kernel
theorem dX10_surveyForm_122 : decode mX10_surveyForm.cd 122 = .ok (.iaload, 1) := by decide +kernel
theorem dX10_surveyForm_123 : decode mX10_surveyForm.cd 123 = .ok (.iconst 1, 1) := by decide +kernel
theorem dX10_surveyForm_124 : decode mX10_surveyForm.cd 124 = .ok (.iadd, 1) := by decide +kernel
theorem dX10_surveyForm_125 : decode mX10_surveyForm.cd 125 = .ok (.iastore, 1) := by decide +kernel
theorem dX10_surveyForm_126 : decode mX10_surveyForm.cd 126 = .ok (.iinc 9 1, 3) := by decide +kernel
theorem dX10_surveyForm_129 : decode mX10_surveyForm.cd 129 = .ok (.goto (-90), 3) := by decide +kernel
theorem dX10_surveyForm_132 : decode mX10_surveyForm.cd 132 = .ok (.return_, 1) := by decide +kernel
theorem bX10_surveyForm_0 {fr M1 M2 b1 b2 : Nat} {Q : RS → Nat → AH → Prop} {h : AH} {l1 l2 l3 l5 : Int} {x6 x7 x8 x9 x10 x11 : AV} (c1 : cel 137 (h 55 0) (2, 21) := by first | assumption | omega) (r1 : 0 ≤ l2 * 3 ∧ l2 * 3 < 18 := by omega) (r2 : 0 ≤ h ((h 55 0) + 14) (l2 * 3) ∧ h ((h 55 0) + 14) (l2 * 3) < 4 := by omega) (r3 : 1 ≤ fr := by omega) (r4 : -2147483648 ≤ h 71 (h ((h 55 0) + 14) (l2 * 3)) ∧ h 71 (h ((h 55 0) + 14) (l2 * 3)) < 2147483648 := by omega) (r5 : 0 ≤ l2 ∧ l2 < 6 := by omega) (r6 : 0 ≤ h 73 l2 ∧ h 73 l2 < 2147483648 := by omega) (r7 : 0 < max 1 (h 71 (h ((h 55 0) + 14) (l2 * 3))) ∧ max 1 (h 71 (h ((h 55 0) + 14) (l2 * 3))) < 2147483648 := by omega) (kk : Wp mX10_surveyForm (kR fr M1 M2) Q (b1, b2) 39 [zR 55, zI l1, zI l2, zI l3, zR 51, zR l5, zI (max 1 (h 71 (h ((h 55 0) + 14) (l2 * 3)))), zI ((h 73 l2) / (max 1 (h 71 (h ((h 55 0) + 14) (l2 * 3))))), zI 0, zI 0, none, none] [] 137 h) : Wp mX10_surveyForm (kR fr M1 M2) Q (b1, b2) 0 [zR 55, zI l1, zI l2, zI l3, zR 51, zR l5, x6, x7, x8, x9, x10, x11] [] 137 h := by
  refine s_fgt (fgt_c (fgt_c (fgt_c (fgt_c (fgt_c (fgt_c (fgt_n _ (fgt_n _ (fgt_n _ (fgt_n _ (fgt_n _ (fgt_n _ fgt_0)))))))))))) ?_
  refine s_iconst dX10_surveyForm_0 ?_
  refine s_aload_n (x := 55) dX10_surveyForm_1 rfl ?_
  refine s_getFd (c := 55) (d := 71) dX10_surveyForm_2 lX10_18 e55 (Or.inl rfl) (by decide) (by decide) ?_
  refine s_aload_n (x := 55) dX10_surveyForm_5 rfl ?_
  refine s_getR (c := 55) dX10_surveyForm_6 lX10_14 e55 rfl ?_
  refine s_getFd (c := h 55 0) (d := (h 55 0) + 14) dX10_surveyForm_9 lX10_81 c1 (Or.inl rfl) rfl (ne0 (fin_X2_20 c1)) ?_
  refine s_iload_n (x := l2) dX10_surveyForm_12 rfl ?_
  refine s_iconst dX10_surveyForm_13 ?_
  refine s_imul dX10_surveyForm_14 ?_
  refine s_iald (c := (h 55 0) + 14) (i := l2 * 3) dX10_surveyForm_15 (fin_X2_20 c1) r1.1 r1.2 ?_
  refine s_iald (c := 71) (i := h ((h 55 0) + 14) (l2 * 3)) dX10_surveyForm_16 e71 r2.1 r2.2 ?_
  refine s_mmax dX10_surveyForm_17 wd1000 wd953 wd19 wd954 r3 (Nat.le_of_ble_eq_true rfl) ⟨by decide, by decide⟩ r4 ?_
  refine s_istore dX10_surveyForm_20 rfl (by decide) ?_
  refine s_aload_n (x := 55) dX10_surveyForm_22 rfl ?_
  refine s_getFd (c := 55) (d := 73) dX10_surveyForm_23 lX10_25 e55 (Or.inl rfl) (by decide) (by decide) ?_
  refine s_iload_n (x := l2) dX10_surveyForm_26 rfl ?_
  refine s_iald (c := 73) (i := l2) dX10_surveyForm_27 e73 r5.1 r5.2 ?_
  refine s_iload (x := max 1 (h 71 (h ((h 55 0) + 14) (l2 * 3)))) dX10_surveyForm_28 rfl ?_
  refine s_idivN dX10_surveyForm_30 r6.1 r6.2 r7.1 r7.2 ?_
  refine s_istore dX10_surveyForm_31 rfl (by decide) ?_
  refine s_iconst dX10_surveyForm_33 ?_
  refine s_istore dX10_surveyForm_34 rfl (by decide) ?_
  refine s_iconst dX10_surveyForm_36 ?_
  refine s_istore dX10_surveyForm_37 rfl (by decide) ?_
  exact kk
theorem bX10_surveyForm_39 {fr M1 M2 b1 b2 : Nat} {Q : RS → Nat → AH → Prop} {h : AH} {l1 l2 l3 l5 l6 l7 l8 l9 : Int} {x10 x11 : AV}  (r1 : -2147483648 ≤ l9 ∧ l9 < 2147483648 := by omega) (r2 : -2147483648 ≤ l6 ∧ l6 < 2147483648 := by omega) (kt : l6 ≤ l9 → Wp mX10_surveyForm (kR fr M1 M2) Q (b1, b2) 132 [zR 55, zI l1, zI l2, zI l3, zR 51, zR l5, zI l6, zI l7, zI l8, zI l9, none, none] [] 137 h) (kf : l9 < l6 → Wp mX10_surveyForm (kR fr M1 M2) Q (b1, b2) 46 [zR 55, zI l1, zI l2, zI l3, zR 51, zR l5, zI l6, zI l7, zI l8, zI l9, none, none] [] 137 h) : Wp mX10_surveyForm (kR fr M1 M2) Q (b1, b2) 39 [zR 55, zI l1, zI l2, zI l3, zR 51, zR l5, zI l6, zI l7, zI l8, zI l9, x10, x11] [] 137 h := by
  refine s_fgt (fgt_c (fgt_c (fgt_c (fgt_c (fgt_c (fgt_c (fgt_c (fgt_c (fgt_c (fgt_c (fgt_n _ (fgt_n _ fgt_0)))))))))))) ?_
  refine s_iload (x := l9) dX10_surveyForm_39 rfl ?_
  refine s_iload (x := l6) dX10_surveyForm_41 rfl ?_
  exact s_icmp_ge (tgt := 132) dX10_surveyForm_43 (by decide) r1 r2 kt kf
theorem bX10_surveyForm_46 {fr M1 M2 b1 b2 : Nat} {Q : RS → Nat → AH → Prop} {h : AH} {l1 l2 l3 l5 l6 l7 l8 l9 : Int} {x10 x11 : AV}   (kk : Wp mX10_surveyForm (kR fr M1 M2) Q (b1, b2) 52 [zR 55, zI l1, zI l2, zI l3, zR 51, zR l5, zI l6, zI l7, zI l8, zI l9, zI 0, zI 0] [] 137 h) : Wp mX10_surveyForm (kR fr M1 M2) Q (b1, b2) 46 [zR 55, zI l1, zI l2, zI l3, zR 51, zR l5, zI l6, zI l7, zI l8, zI l9, x10, x11] [] 137 h := by
  refine s_fgt (fgt_c (fgt_c (fgt_c (fgt_c (fgt_c (fgt_c (fgt_c (fgt_c (fgt_c (fgt_c (fgt_n _ (fgt_n _ fgt_0)))))))))))) ?_
  refine s_iconst dX10_surveyForm_46 ?_
  refine s_istore dX10_surveyForm_47 rfl (by decide) ?_
  refine s_iconst dX10_surveyForm_49 ?_
  refine s_istore dX10_surveyForm_50 rfl (by decide) ?_
  exact kk
theorem bX10_surveyForm_52 {fr M1 M2 b1 b2 : Nat} {Q : RS → Nat → AH → Prop} {h : AH} {l1 l2 l3 l5 l6 l7 l8 l9 l10 l11 : Int}  (r1 : -2147483648 ≤ l11 ∧ l11 < 2147483648 := by omega) (r2 : -2147483648 ≤ l7 ∧ l7 < 2147483648 := by omega) (kt : l7 ≤ l11 → Wp mX10_surveyForm (kR fr M1 M2) Q (b1, b2) 101 [zR 55, zI l1, zI l2, zI l3, zR 51, zR l5, zI l6, zI l7, zI l8, zI l9, zI l10, zI l11] [] 137 h) (kf : l11 < l7 → Wp mX10_surveyForm (kR fr M1 M2) Q (b1, b2) 59 [zR 55, zI l1, zI l2, zI l3, zR 51, zR l5, zI l6, zI l7, zI l8, zI l9, zI l10, zI l11] [] 137 h) : Wp mX10_surveyForm (kR fr M1 M2) Q (b1, b2) 52 [zR 55, zI l1, zI l2, zI l3, zR 51, zR l5, zI l6, zI l7, zI l8, zI l9, zI l10, zI l11] [] 137 h := by
  refine s_iload (x := l11) dX10_surveyForm_52 rfl ?_
  refine s_iload (x := l7) dX10_surveyForm_54 rfl ?_
  exact s_icmp_ge (tgt := 101) dX10_surveyForm_56 (by decide) r1 r2 kt kf
theorem bX10_surveyForm_59 {fr M1 M2 b1 b2 : Nat} {Q : RS → Nat → AH → Prop} {h : AH} {l1 l2 l3 l5 l6 l7 l8 l9 l10 l11 : Int} {R : AH → Prop}   (hS : Sp mX10_spell true (fr - 1) 0 0 [zR 55, zI l2, zI l8] 137 h (rV R)) (hf : 1 ≤ fr := by omega) (kk : ∀ h' : AH, R h' → Wp mX10_surveyForm (kR fr M1 M2) Q (b1, b2) 66 [zR 55, zI l1, zI l2, zI l3, zR 51, zR l5, zI l6, zI l7, zI l8, zI l9, zI l10, zI l11] [] 137 h') : Wp mX10_surveyForm (kR fr M1 M2) Q (b1, b2) 59 [zR 55, zI l1, zI l2, zI l3, zR 51, zR l5, zI l6, zI l7, zI l8, zI l9, zI l10, zI l11] [] 137 h := by
  refine s_aload_n (x := 55) dX10_surveyForm_59 rfl ?_
  refine s_iload_n (x := l2) dX10_surveyForm_60 rfl ?_
  refine s_iload (x := l8) dX10_surveyForm_61 rfl ?_
  exact s_callV (as := [zI l2, zI l8]) (st := []) (o := 55) dX10_surveyForm_63 kX10_140 rfl ⟨10, 16, TX10, e55, rfl, by decide⟩ rfl rfl (Nat.le_of_ble_eq_true rfl) hS (show fr - 1 + 1 ≤ fr by omega) (Nat.zero_le _) (Nat.zero_le _) (fun v n' h' hP _ => by obtain ⟨e, rfl, hR⟩ := hP; cases e; exact kk h' hR) (fun E n' h' _ z => (rV_nt _ _ _ z).elim)
theorem bX10_surveyForm_66 {fr M1 M2 b1 b2 : Nat} {Q : RS → Nat → AH → Prop} {h : AH} {l1 l2 l3 l5 l6 l7 l8 l9 l10 l11 : Int} {R : Int → AH → Prop}   (hS : Sp mX10_listen true (fr - 1) 0 0 [zR 55, zR 51, zR l5] 137 h (rI R)) (hf : 1 ≤ fr := by omega) (kk : ∀ (x : Int) (h' : AH), R x h' → Wp mX10_surveyForm (kR fr M1 M2) Q (b1, b2) 74 [zR 55, zI l1, zI l2, zI l3, zR 51, zR l5, zI l6, zI l7, zI l8, zI l9, zI l10, zI l11] [zI x] 137 h') : Wp mX10_surveyForm (kR fr M1 M2) Q (b1, b2) 66 [zR 55, zI l1, zI l2, zI l3, zR 51, zR l5, zI l6, zI l7, zI l8, zI l9, zI l10, zI l11] [] 137 h := by
  refine s_aload_n (x := 55) dX10_surveyForm_66 rfl ?_
  refine s_aload (x := 51) dX10_surveyForm_67 rfl ?_
  refine s_aload (x := l5) dX10_surveyForm_69 rfl ?_
  exact s_callV (as := [zR 51, zR l5]) (st := []) (o := 55) dX10_surveyForm_71 kX10_144 rfl ⟨10, 16, TX10, e55, rfl, by decide⟩ rfl rfl (Nat.le_of_ble_eq_true rfl) hS (show fr - 1 + 1 ≤ fr by omega) (Nat.zero_le _) (Nat.zero_le _) (fun v n' h' hP _ => by obtain ⟨x, e, rfl, hR⟩ := hP; cases e; exact kk x h' hR) (fun E n' h' _ z => (rI_nt _ _ _ z).elim)
theorem bX10_surveyForm_74 {fr M1 M2 b1 b2 : Nat} {Q : RS → Nat → AH → Prop} {h : AH} {l1 l2 l3 l5 l6 l7 l8 l9 l10 l11 s0 : Int}  (r1 : -2147483648 ≤ s0 ∧ s0 < 2147483648 := by omega) (kt : s0 = 0 → Wp mX10_surveyForm (kR fr M1 M2) Q (b1, b2) 92 [zR 55, zI l1, zI l2, zI l3, zR 51, zR l5, zI l6, zI l7, zI l8, zI l9, zI l10, zI l11] [] 137 h) (kf : ¬ s0 = 0 → Wp mX10_surveyForm (kR fr M1 M2) Q (b1, b2) 77 [zR 55, zI l1, zI l2, zI l3, zR 51, zR l5, zI l6, zI l7, zI l8, zI l9, zI l10, zI l11] [] 137 h) : Wp mX10_surveyForm (kR fr M1 M2) Q (b1, b2) 74 [zR 55, zI l1, zI l2, zI l3, zR 51, zR l5, zI l6, zI l7, zI l8, zI l9, zI l10, zI l11] [zI s0] 137 h := by
  exact s_if_eq (tgt := 92) dX10_surveyForm_74 (by decide) r1 kt kf
theorem bX10_surveyForm_77 {fr M1 M2 b1 b2 : Nat} {Q : RS → Nat → AH → Prop} {h : AH} {l1 l2 l3 l5 l6 l7 l8 l9 l10 l11 : Int} {R : Int → AH → Prop}   (hS : Sp mX10_weigh true (fr - 1) 0 0 [zR 55, zI l1, zI l2, zI (l3 + l8)] 137 h (rI R)) (hf : 1 ≤ fr := by omega) (kk : ∀ (x : Int) (h' : AH), R x h' → Wp mX10_surveyForm (kR fr M1 M2) Q (b1, b2) 89 [zR 55, zI l1, zI l2, zI l3, zR 51, zR l5, zI l6, zI l7, zI l8, zI l9, zI l10, zI l11] [zI x, zI l10] 137 h') : Wp mX10_surveyForm (kR fr M1 M2) Q (b1, b2) 77 [zR 55, zI l1, zI l2, zI l3, zR 51, zR l5, zI l6, zI l7, zI l8, zI l9, zI l10, zI l11] [] 137 h := by
  refine s_iload (x := l10) dX10_surveyForm_77 rfl ?_
  refine s_aload_n (x := 55) dX10_surveyForm_79 rfl ?_
  refine s_iload_n (x := l1) dX10_surveyForm_80 rfl ?_
  refine s_iload_n (x := l2) dX10_surveyForm_81 rfl ?_
  refine s_iload_n (x := l3) dX10_surveyForm_82 rfl ?_
  refine s_iload (x := l8) dX10_surveyForm_83 rfl ?_
  refine s_iadd dX10_surveyForm_85 ?_
  exact s_callV (as := [zI l1, zI l2, zI (l3 + l8)]) (st := [zI l10]) (o := 55) dX10_surveyForm_86 kX10_148 rfl ⟨10, 16, TX10, e55, rfl, by decide⟩ rfl rfl (Nat.le_of_ble_eq_true rfl) hS (show fr - 1 + 1 ≤ fr by omega) (Nat.zero_le _) (Nat.zero_le _) (fun v n' h' hP _ => by obtain ⟨x, e, rfl, hR⟩ := hP; cases e; exact kk x h' hR) (fun E n' h' _ z => (rI_nt _ _ _ z).elim)
theorem bX10_surveyForm_89 {fr M1 M2 b1 b2 : Nat} {Q : RS → Nat → AH → Prop} {h : AH} {l1 l2 l3 l5 l6 l7 l8 l9 l11 s1 s0 : Int} {x10 : AV}   (kk : Wp mX10_surveyForm (kR fr M1 M2) Q (b1, b2) 92 [zR 55, zI l1, zI l2, zI l3, zR 51, zR l5, zI l6, zI l7, zI l8, zI l9, zI (s1 + s0), zI l11] [] 137 h) : Wp mX10_surveyForm (kR fr M1 M2) Q (b1, b2) 89 [zR 55, zI l1, zI l2, zI l3, zR 51, zR l5, zI l6, zI l7, zI l8, zI l9, x10, zI l11] [zI s0, zI s1] 137 h := by
  refine s_fgt (fgt_c (fgt_c (fgt_c (fgt_c (fgt_c (fgt_c (fgt_c (fgt_c (fgt_c (fgt_c (fgt_n _ (fgt_c fgt_0)))))))))))) ?_
  refine s_iadd dX10_surveyForm_89 ?_
  refine s_istore dX10_surveyForm_90 rfl (by decide) ?_
  exact kk
theorem bX10_surveyForm_92 {fr M1 M2 b1 b2 : Nat} {Q : RS → Nat → AH → Prop} {h : AH} {l1 l2 l3 l5 l6 l7 l8 l9 l10 l11 : Int}   (kk : Wp mX10_surveyForm (kR fr M1 M2) Q (b1, b2) 52 [zR 55, zI l1, zI l2, zI l3, zR 51, zR l5, zI l6, zI l7, zI (l8 + 1), zI l9, zI l10, zI (l11 + 1)] [] 137 h) : Wp mX10_surveyForm (kR fr M1 M2) Q (b1, b2) 92 [zR 55, zI l1, zI l2, zI l3, zR 51, zR l5, zI l6, zI l7, zI l8, zI l9, zI l10, zI l11] [] 137 h := by
  refine s_iinc (x := l8) dX10_surveyForm_92 rfl rfl (by decide) ?_
  refine s_iinc (x := l11) dX10_surveyForm_95 rfl rfl (by decide) ?_
  exact s_goto (tgt := 52) dX10_surveyForm_98 (by decide) kk
theorem bX10_surveyForm_101 {fr M1 M2 b1 b2 : Nat} {Q : RS → Nat → AH → Prop} {h : AH} {l1 l2 l3 l5 l6 l7 l8 l9 l10 : Int} {x11 : AV}  (r1 : -2147483648 ≤ l10 ∧ l10 < 2147483648 := by omega) (kt : ¬ l10 = 0 → Wp mX10_surveyForm (kR fr M1 M2) Q (b1, b2) 126 [zR 55, zI l1, zI l2, zI l3, zR 51, zR l5, zI l6, zI l7, zI l8, zI l9, zI l10, none] [] 137 h) (kf : l10 = 0 → Wp mX10_surveyForm (kR fr M1 M2) Q (b1, b2) 106 [zR 55, zI l1, zI l2, zI l3, zR 51, zR l5, zI l6, zI l7, zI l8, zI l9, zI l10, none] [] 137 h) : Wp mX10_surveyForm (kR fr M1 M2) Q (b1, b2) 101 [zR 55, zI l1, zI l2, zI l3, zR 51, zR l5, zI l6, zI l7, zI l8, zI l9, zI l10, x11] [] 137 h := by
  refine s_fgt (fgt_c (fgt_c (fgt_c (fgt_c (fgt_c (fgt_c (fgt_c (fgt_c (fgt_c (fgt_c (fgt_c (fgt_n _ fgt_0)))))))))))) ?_
  refine s_iload (x := l10) dX10_surveyForm_101 rfl ?_
  exact s_if_ne (tgt := 126) dX10_surveyForm_103 (by decide) r1 kt kf
theorem bX10_surveyForm_106 {fr M1 M2 b1 b2 : Nat} {Q : RS → Nat → AH → Prop} {h : AH} {l1 l2 l3 l5 l6 l7 l8 l9 : Int} {x10 x11 : AV}  (r1 : -2147483648 ≤ l7 ∧ l7 < 2147483648 := by omega) (kt : l7 ≤ 0 → Wp mX10_surveyForm (kR fr M1 M2) Q (b1, b2) 126 [zR 55, zI l1, zI l2, zI l3, zR 51, zR l5, zI l6, zI l7, zI l8, zI l9, none, none] [] 137 h) (kf : 0 < l7 → Wp mX10_surveyForm (kR fr M1 M2) Q (b1, b2) 111 [zR 55, zI l1, zI l2, zI l3, zR 51, zR l5, zI l6, zI l7, zI l8, zI l9, none, none] [] 137 h) : Wp mX10_surveyForm (kR fr M1 M2) Q (b1, b2) 106 [zR 55, zI l1, zI l2, zI l3, zR 51, zR l5, zI l6, zI l7, zI l8, zI l9, x10, x11] [] 137 h := by
  refine s_fgt (fgt_c (fgt_c (fgt_c (fgt_c (fgt_c (fgt_c (fgt_c (fgt_c (fgt_c (fgt_c (fgt_n _ (fgt_n _ fgt_0)))))))))))) ?_
  refine s_iload (x := l7) dX10_surveyForm_106 rfl ?_
  exact s_if_le (tgt := 126) dX10_surveyForm_108 (by decide) r1 kt kf
theorem bX10_surveyForm_111 {fr M1 M2 b1 b2 : Nat} {Q : RS → Nat → AH → Prop} {h : AH} {l1 l2 l3 l5 l6 l7 l8 l9 : Int} {x10 x11 : AV}  (r1 : 0 ≤ (l1 * 6) + 3 ∧ (l1 * 6) + 3 < 144 := by omega) (kk : Wp mX10_surveyForm (kR fr M1 M2) Q (b1, b2) 126 [zR 55, zI l1, zI l2, zI l3, zR 51, zR l5, zI l6, zI l7, zI l8, zI l9, none, none] [] 137 (up h 74 ((l1 * 6) + 3) ((h 74 ((l1 * 6) + 3)) + 1))) : Wp mX10_surveyForm (kR fr M1 M2) Q (b1, b2) 111 [zR 55, zI l1, zI l2, zI l3, zR 51, zR l5, zI l6, zI l7, zI l8, zI l9, x10, x11] [] 137 h := by
  refine s_fgt (fgt_c (fgt_c (fgt_c (fgt_c (fgt_c (fgt_c (fgt_c (fgt_c (fgt_c (fgt_c (fgt_n _ (fgt_n _ fgt_0)))))))))))) ?_
  refine s_aload_n (x := 55) dX10_surveyForm_111 rfl ?_
  refine s_getFd (c := 55) (d := 74) dX10_surveyForm_112 lX10_28 e55 (Or.inl rfl) (by decide) (by decide) ?_
  refine s_iload_n (x := l1) dX10_surveyForm_115 rfl ?_
  refine s_bipush dX10_surveyForm_116 (by decide) ?_
  refine s_imul dX10_surveyForm_118 ?_
  refine s_iconst dX10_surveyForm_119 ?_
  refine s_iadd dX10_surveyForm_120 ?_
  refine s_dup2 dX10_surveyForm_121 rfl rfl ?_
  refine s_iald (c := 74) (i := (l1 * 6) + 3) dX10_surveyForm_122 e74 r1.1 r1.2 ?_
  refine s_iconst dX10_surveyForm_123 ?_
  refine s_iadd dX10_surveyForm_124 ?_
  refine s_iast (c := 74) (i := (l1 * 6) + 3) dX10_surveyForm_125 e74 r1.1 r1.2 ?_
  exact kk
theorem bX10_surveyForm_126 {fr M1 M2 b1 b2 : Nat} {Q : RS → Nat → AH → Prop} {h : AH} {l1 l2 l3 l5 l6 l7 l8 l9 : Int} {x10 x11 : AV}   (kk : Wp mX10_surveyForm (kR fr M1 M2) Q (b1, b2) 39 [zR 55, zI l1, zI l2, zI l3, zR 51, zR l5, zI l6, zI l7, zI l8, zI (l9 + 1), none, none] [] 137 h) : Wp mX10_surveyForm (kR fr M1 M2) Q (b1, b2) 126 [zR 55, zI l1, zI l2, zI l3, zR 51, zR l5, zI l6, zI l7, zI l8, zI l9, x10, x11] [] 137 h := by
  refine s_fgt (fgt_c (fgt_c (fgt_c (fgt_c (fgt_c (fgt_c (fgt_c (fgt_c (fgt_c (fgt_c (fgt_n _ (fgt_n _ fgt_0)))))))))))) ?_
  refine s_iinc (x := l9) dX10_surveyForm_126 rfl rfl (by decide) ?_
  exact s_goto (tgt := 39) dX10_surveyForm_129 (by decide) kk
theorem bX10_surveyForm_132 {fr M1 M2 b1 b2 : Nat} {Q : RS → Nat → AH → Prop} {h : AH} {x0 x1 x2 x3 x4 x5 x6 x7 x8 x9 x10 x11 : AV}   (hq : Q (.inl none) 137 h) : Wp mX10_surveyForm (kR fr M1 M2) Q (b1, b2) 132 [x0, x1, x2, x3, x4, x5, x6, x7, x8, x9, x10, x11] [] 137 h := by
  refine s_fgt (fgt_n _ (fgt_n _ (fgt_n _ (fgt_n _ (fgt_n _ (fgt_n _ (fgt_n _ (fgt_n _ (fgt_n _ (fgt_n _ (fgt_n _ (fgt_n _ fgt_0)))))))))))) ?_
  exact s_return dX10_surveyForm_132 rfl hq (fun z => by cases z)
theorem dX10_weigh_0 : decode mX10_weigh.cd 0 = .ok (.iload_n 1, 1) := by decide +kernel
theorem dX10_weigh_1 : decode mX10_weigh.cd 1 = .ok (.bipush 6, 2) := by decide +kernel
theorem dX10_weigh_3 : decode mX10_weigh.cd 3 = .ok (.imul, 1) := by decide +kernel
theorem dX10_weigh_4 : decode mX10_weigh.cd 4 = .ok (.istore 4, 2) := by decide +kernel
theorem dX10_weigh_6 : decode mX10_weigh.cd 6 = .ok (.aload_n 0, 1) := by decide +kernel
theorem dX10_weigh_7 : decode mX10_weigh.cd 7 = .ok (.iload_n 2, 1) := by decide +kernel
theorem dX10_weigh_8 : decode mX10_weigh.cd 8 = .ok (.invokevirtual 152, 3) := by decide +kernel
theorem dX10_weigh_11 : decode mX10_weigh.cd 11 = .ok (.ifCond .eq 16, 3) := by decide +kernel
theorem dX10_weigh_14 : decode mX10_weigh.cd 14 = .ok (.aload_n 0, 1) := by decide +kernel
theorem dX10_weigh_15 : decode mX10_weigh.cd 15 = .ok (.getfield 28, 3) := by decide +kernel
theorem dX10_weigh_18 : decode mX10_weigh.cd 18 = .ok (.iload 4, 2) := by decide +kernel
theorem dX10_weigh_20 : decode mX10_weigh.cd 20 = .ok (.iconst 1, 1) := by decide +kernel
theorem dX10_weigh_21 : decode mX10_weigh.cd 21 = .ok (.iadd, 1) := by decide +kernel
theorem dX10_weigh_22 : decode mX10_weigh.cd 22 = .ok (.dup2, 1) := by decide +kernel
theorem dX10_weigh_23 : decode mX10_weigh.cd 23 = .ok (.iaload, 1) := by decide +kernel
theorem dX10_weigh_24 : decode mX10_weigh.cd 24 = .ok (.iconst 1, 1) := by decide +kernel
theorem dX10_weigh_25 : decode mX10_weigh.cd 25 = .ok (.iadd, 1) := by decide +kernel
theorem dX10_weigh_26 : decode mX10_weigh.cd 26 = .ok (.iastore, 1) := by decide +kernel
theorem dX10_weigh_27 : decode mX10_weigh.cd 27 = .ok (.aload_n 0, 1) := by decide +kernel
theorem dX10_weigh_28 : decode mX10_weigh.cd 28 = .ok (.invokevirtual 156, 3) := by decide +kernel
theorem dX10_weigh_31 : decode mX10_weigh.cd 31 = .ok (.ifCond .ne 5, 3) := by decide +kernel
theorem dX10_weigh_34 : decode mX10_weigh.cd 34 = .ok (.iconst 0, 1) := by decide +kernel
theorem dX10_weigh_35 : decode mX10_weigh.cd 35 = .ok (.ireturn, 1) := by decide +kernel
theorem dX10_weigh_36 : decode mX10_weigh.cd 36 = .ok (.aload_n 0, 1) := by decide +kernel
theorem dX10_weigh_37 : decode mX10_weigh.cd 37 = .ok (.getfield 28, 3) := by decide +kernel
theorem dX10_weigh_40 : decode mX10_weigh.cd 40 = .ok (.iload 4, 2) := by decide +kernel
theorem dX10_weigh_42 : decode mX10_weigh.cd 42 = .ok (.iconst 0, 1) := by decide +kernel
theorem dX10_weigh_43 : decode mX10_weigh.cd 43 = .ok (.iadd, 1) := by decide +kernel
theorem dX10_weigh_44 : decode mX10_weigh.cd 44 = .ok (.dup2, 1) := by decide +kernel
theorem dX10_weigh_45 : decode mX10_weigh.cd 45 = .ok (.iaload, 1) := by decide +kernel
theorem dX10_weigh_46 : decode mX10_weigh.cd 46 = .ok (.iconst 1, 1) := by decide +kernel
theorem dX10_weigh_47 : decode mX10_weigh.cd 47 = .ok (.iadd, 1) := by decide +kernel
theorem dX10_weigh_48 : decode mX10_weigh.cd 48 = .ok (.iastore, 1) := by decide +kernel
theorem dX10_weigh_49 : decode mX10_weigh.cd 49 = .ok (.aload_n 0, 1) := by decide +kernel
theorem dX10_weigh_50 : decode mX10_weigh.cd 50 = .ok (.getfield 31, 3) := by decide +kernel
theorem dX10_weigh_53 : decode mX10_weigh.cd 53 = .ok (.iload_n 1, 1) := by decide +kernel
theorem dX10_weigh_54 : decode mX10_weigh.cd 54 = .ok (.bipush 96, 2) := by decide +kernel
theorem dX10_weigh_56 : decode mX10_weigh.cd 56 = .ok (.imul, 1) := by decide +kernel
theorem dX10_weigh_57 : decode mX10_weigh.cd 57 = .ok (.iload_n 3, 1) := by decide +kernel
theorem dX10_weigh_58 : decode mX10_weigh.cd 58 = .ok (.bipush 32, 2) := by decide +kernel
theorem dX10_weigh_60 : decode mX10_weigh.cd 60 = .ok (.idiv, 1) := by decide +kernel
theorem dX10_weigh_61 : decode mX10_weigh.cd 61 = .ok (.iadd, 1) := by decide +kernel
theorem dX10_weigh_62 : decode mX10_weigh.cd 62 = .ok (.dup2, 1) := by decide +kernel
theorem dX10_weigh_63 : decode mX10_weigh.cd 63 = .ok (.iaload, 1) := by decide +kernel
theorem dX10_weigh_64 : decode mX10_weigh.cd 64 = .ok (.iconst 1, 1) := by decide +kernel
theorem dX10_weigh_65 : decode mX10_weigh.cd 65 = .ok (.iload_n 3, 1) := by decide +kernel
theorem dX10_weigh_66 : decode mX10_weigh.cd 66 = .ok (.bipush 32, 2) := by decide +kernel
theorem dX10_weigh_68 : decode mX10_weigh.cd 68 = .ok (.irem, 1) := by decide +kernel
theorem dX10_weigh_69 : decode mX10_weigh.cd 69 = .ok (.ishl, 1) := by decide +kernel
theorem dX10_weigh_70 : decode mX10_weigh.cd 70 = .ok (.ior, 1) := by decide +kernel
theorem dX10_weigh_71 : decode mX10_weigh.cd 71 = .ok (.iastore, 1) := by decide +kernel
theorem dX10_weigh_72 : decode mX10_weigh.cd 72 = .ok (.aload_n 0, 1) := by decide +kernel
theorem dX10_weigh_73 : decode mX10_weigh.cd 73 = .ok (.getfield 28, 3) := by decide +kernel
theorem dX10_weigh_76 : decode mX10_weigh.cd 76 = .ok (.iload 4, 2) := by decide +kernel
theorem dX10_weigh_78 : decode mX10_weigh.cd 78 = .ok (.iconst 4, 1) := by decide +kernel
theorem dX10_weigh_79 : decode mX10_weigh.cd 79 = .ok (.iadd, 1) := by decide +kernel
theorem dX10_weigh_80 : decode mX10_weigh.cd 80 = .ok (.iaload, 1) := by decide +kernel
theorem dX10_weigh_81 : decode mX10_weigh.cd 81 = .ok (.iconst (-1), 1) := by decide +kernel
theorem dX10_weigh_82 : decode mX10_weigh.cd 82 = .ok (.if_icmp .eq 19, 3) := by decide +kernel
theorem dX10_weigh_85 : decode mX10_weigh.cd 85 = .ok (.aload_n 0, 1) := by decide +kernel
theorem dX10_weigh_86 : decode mX10_weigh.cd 86 = .ok (.getfield 93, 3) := by decide +kernel
theorem dX10_weigh_89 : decode mX10_weigh.cd 89 = .ok (.aload_n 0, 1) := by decide +kernel
theorem dX10_weigh_90 : decode mX10_weigh.cd 90 = .ok (.getfield 28, 3) := by decide +kernel
theorem dX10_weigh_93 : decode mX10_weigh.cd 93 = .ok (.iload 4, 2) := by decide +kernel
theorem dX10_weigh_95 : decode mX10_weigh.cd 95 = .ok (.iconst 2, 1) := by decide +kernel
theorem dX10_weigh_96 : decode mX10_weigh.cd 96 = .ok (.iadd, 1) := by decide +kernel
theorem dX10_weigh_97 : decode mX10_weigh.cd 97 = .ok (.iaload, 1) := by decide +kernel
theorem dX10_weigh_98 : decode mX10_weigh.cd 98 = .ok (.if_icmp .ge 26, 3) := by decide +kernel
theorem dX10_weigh_101 : decode mX10_weigh.cd 101 = .ok (.aload_n 0, 1) := by decide +kernel
theorem dX10_weigh_102 : decode mX10_weigh.cd 102 = .ok (.getfield 28, 3) := by decide +kernel
theorem dX10_weigh_105 : decode mX10_weigh.cd 105 = .ok (.iload 4, 2) := by decide +kernel
theorem dX10_weigh_107 : decode mX10_weigh.cd 107 = .ok (.iconst 4, 1) := by decide +kernel
theorem dX10_weigh_108 : decode mX10_weigh.cd 108 = .ok (.iadd, 1) := by decide +kernel
theorem dX10_weigh_109 : decode mX10_weigh.cd 109 = .ok (.iload_n 3, 1) := by decide +kernel
theorem dX10_weigh_110 : decode mX10_weigh.cd 110 = .ok (.iastore, 1) := by decide +kernel
theorem dX10_weigh_111 : decode mX10_weigh.cd 111 = .ok (.aload_n 0, 1) := by decide +kernel
theorem dX10_weigh_112 : decode mX10_weigh.cd 112 = .ok (.getfield 28, 3) := by decide +kernel
theorem dX10_weigh_115 : decode mX10_weigh.cd 115 = .ok (.iload 4, 2) := by decide +kernel
theorem dX10_weigh_117 : decode mX10_weigh.cd 117 = .ok (.iconst 2, 1) := by decide +kernel
theorem dX10_weigh_118 : decode mX10_weigh.cd 118 = .ok (.iadd, 1) := by decide +kernel
theorem dX10_weigh_119 : decode mX10_weigh.cd 119 = .ok (.aload_n 0, 1) := by decide +kernel
theorem dX10_weigh_120 : decode mX10_weigh.cd 120 = .ok (.getfield 93, 3) := by decide +kernel
theorem dX10_weigh_123 : decode mX10_weigh.cd 123 = .ok (.iastore, 1) := by decide +kernel
theorem dX10_weigh_124 : decode mX10_weigh.cd 124 = .ok (.iconst 1, 1) := by decide +kernel
theorem dX10_weigh_125 : decode mX10_weigh.cd 125 = .ok (.ireturn, 1) := by decide +kernel
theorem bX10_weigh_0 {fr M1 M2 b1 b2 : Nat} {Q : RS → Nat → AH → Prop} {h : AH} {l1 l2 l3 : Int} {x4 : AV} {R : Int → AH → Prop}   (hS : Sp mX10_isEchoed true (fr - 1) 0 0 [zR 55, zI l2] 137 h (rI R)) (hf : 1 ≤ fr := by omega) (kk : ∀ (x : Int) (h' : AH), R x h' → Wp mX10_weigh (kR fr M1 M2) Q (b1, b2) 11 [zR 55, zI l1, zI l2, zI l3, zI (l1 * 6)] [zI x] 137 h') : Wp mX10_weigh (kR fr M1 M2) Q (b1, b2) 0 [zR 55, zI l1, zI l2, zI l3, x4] [] 137 h := by
  refine s_fgt (fgt_c (fgt_c (fgt_c (fgt_c (fgt_n _ fgt_0))))) ?_
  refine s_iload_n (x := l1) dX10_weigh_0 rfl ?_
  refine s_bipush dX10_weigh_1 (by decide) ?_
  refine s_imul dX10_weigh_3 ?_
  refine s_istore dX10_weigh_4 rfl (by decide) ?_
  refine s_aload_n (x := 55) dX10_weigh_6 rfl ?_
  refine s_iload_n (x := l2) dX10_weigh_7 rfl ?_
  exact s_callV (as := [zI l2]) (st := []) (o := 55) dX10_weigh_8 kX10_152 rfl ⟨10, 16, TX10, e55, rfl, by decide⟩ rfl rfl (Nat.le_of_ble_eq_true rfl) hS (show fr - 1 + 1 ≤ fr by omega) (Nat.zero_le _) (Nat.zero_le _) (fun v n' h' hP _ => by obtain ⟨x, e, rfl, hR⟩ := hP; cases e; exact kk x h' hR) (fun E n' h' _ z => (rI_nt _ _ _ z).elim)
theorem bX10_weigh_11 {fr M1 M2 b1 b2 : Nat} {Q : RS → Nat → AH → Prop} {h : AH} {l1 l3 l4 s0 : Int} {x2 : AV}  (r1 : -2147483648 ≤ s0 ∧ s0 < 2147483648 := by omega) (kt : s0 = 0 → Wp mX10_weigh (kR fr M1 M2) Q (b1, b2) 27 [zR 55, zI l1, none, zI l3, zI l4] [] 137 h) (kf : ¬ s0 = 0 → Wp mX10_weigh (kR fr M1 M2) Q (b1, b2) 14 [zR 55, zI l1, none, zI l3, zI l4] [] 137 h) : Wp mX10_weigh (kR fr M1 M2) Q (b1, b2) 11 [zR 55, zI l1, x2, zI l3, zI l4] [zI s0] 137 h := by
  refine s_fgt (fgt_c (fgt_c (fgt_n _ (fgt_c (fgt_c fgt_0))))) ?_
  exact s_if_eq (tgt := 27) dX10_weigh_11 (by decide) r1 kt kf
theorem bX10_weigh_14 {fr M1 M2 b1 b2 : Nat} {Q : RS → Nat → AH → Prop} {h : AH} {l1 l3 l4 : Int} {x2 : AV}  (r1 : 0 ≤ l4 + 1 ∧ l4 + 1 < 144 := by omega) (kk : Wp mX10_weigh (kR fr M1 M2) Q (b1, b2) 27 [zR 55, zI l1, none, zI l3, zI l4] [] 137 (up h 74 (l4 + 1) ((h 74 (l4 + 1)) + 1))) : Wp mX10_weigh (kR fr M1 M2) Q (b1, b2) 14 [zR 55, zI l1, x2, zI l3, zI l4] [] 137 h := by
  refine s_fgt (fgt_c (fgt_c (fgt_n _ (fgt_c (fgt_c fgt_0))))) ?_
  refine s_aload_n (x := 55) dX10_weigh_14 rfl ?_
  refine s_getFd (c := 55) (d := 74) dX10_weigh_15 lX10_28 e55 (Or.inl rfl) (by decide) (by decide) ?_
  refine s_iload (x := l4) dX10_weigh_18 rfl ?_
  refine s_iconst dX10_weigh_20 ?_
  refine s_iadd dX10_weigh_21 ?_
  refine s_dup2 dX10_weigh_22 rfl rfl ?_
  refine s_iald (c := 74) (i := l4 + 1) dX10_weigh_23 e74 r1.1 r1.2 ?_
  refine s_iconst dX10_weigh_24 ?_
  refine s_iadd dX10_weigh_25 ?_
  refine s_iast (c := 74) (i := l4 + 1) dX10_weigh_26 e74 r1.1 r1.2 ?_
  exact kk
theorem bX10_weigh_27 {fr M1 M2 b1 b2 : Nat} {Q : RS → Nat → AH → Prop} {h : AH} {l1 l3 l4 : Int} {x2 : AV} {R : Int → AH → Prop}   (hS : Sp mX10_isLine true (fr - 1) 0 0 [zR 55] 137 h (rI R)) (hf : 1 ≤ fr := by omega) (kk : ∀ (x : Int) (h' : AH), R x h' → Wp mX10_weigh (kR fr M1 M2) Q (b1, b2) 31 [zR 55, zI l1, none, zI l3, zI l4] [zI x] 137 h') : Wp mX10_weigh (kR fr M1 M2) Q (b1, b2) 27 [zR 55, zI l1, x2, zI l3, zI l4] [] 137 h := by
  refine s_fgt (fgt_c (fgt_c (fgt_n _ (fgt_c (fgt_c fgt_0))))) ?_
  refine s_aload_n (x := 55) dX10_weigh_27 rfl ?_
  exact s_callV (as := []) (st := []) (o := 55) dX10_weigh_28 kX10_156 rfl ⟨10, 16, TX10, e55, rfl, by decide⟩ rfl rfl (Nat.le_of_ble_eq_true rfl) hS (show fr - 1 + 1 ≤ fr by omega) (Nat.zero_le _) (Nat.zero_le _) (fun v n' h' hP _ => by obtain ⟨x, e, rfl, hR⟩ := hP; cases e; exact kk x h' hR) (fun E n' h' _ z => (rI_nt _ _ _ z).elim)
theorem bX10_weigh_31 {fr M1 M2 b1 b2 : Nat} {Q : RS → Nat → AH → Prop} {h : AH} {l1 l3 l4 s0 : Int} {x2 : AV}  (r1 : -2147483648 ≤ s0 ∧ s0 < 2147483648 := by omega) (kt : ¬ s0 = 0 → Wp mX10_weigh (kR fr M1 M2) Q (b1, b2) 36 [zR 55, zI l1, none, zI l3, zI l4] [] 137 h) (kf : s0 = 0 → Wp mX10_weigh (kR fr M1 M2) Q (b1, b2) 34 [zR 55, zI l1, none, zI l3, zI l4] [] 137 h) : Wp mX10_weigh (kR fr M1 M2) Q (b1, b2) 31 [zR 55, zI l1, x2, zI l3, zI l4] [zI s0] 137 h := by
  refine s_fgt (fgt_c (fgt_c (fgt_n _ (fgt_c (fgt_c fgt_0))))) ?_
  exact s_if_ne (tgt := 36) dX10_weigh_31 (by decide) r1 kt kf
theorem bX10_weigh_34 {fr M1 M2 b1 b2 : Nat} {Q : RS → Nat → AH → Prop} {h : AH} {x0 x1 x2 x3 x4 : AV}   (hq : Q (.inl (some (zI 0))) 137 h) : Wp mX10_weigh (kR fr M1 M2) Q (b1, b2) 34 [x0, x1, x2, x3, x4] [] 137 h := by
  refine s_fgt (fgt_n _ (fgt_n _ (fgt_n _ (fgt_n _ (fgt_n _ fgt_0))))) ?_
  refine s_iconst dX10_weigh_34 ?_
  exact s_ireturn dX10_weigh_35 ⟨.int, rfl, rfl⟩ hq (fun z => by cases z)
theorem bX10_weigh_36 {fr M1 M2 b1 b2 : Nat} {Q : RS → Nat → AH → Prop} {h : AH} {l1 l3 l4 : Int} {x2 : AV}  (r1 : 0 ≤ l4 + 0 ∧ l4 + 0 < 144 := by omega) (r2 : 0 ≤ l3 ∧ l3 < 2147483648 := by omega) (r3 : 0 ≤ (l1 * 96) + (l3 / 32) ∧ (l1 * 96) + (l3 / 32) < 2304 := by omega) (r4 : 0 ≤ l3 % 32 ∧ l3 % 32 < 32 := by omega) (r5 : 0 ≤ l4 + 4 ∧ l4 + 4 < 144 := by omega) (r6 : -2147483648 ≤ (up h 74 (l4 + 0) ((h 74 (l4 + 0)) + 1)) 74 (l4 + 4) ∧ (up h 74 (l4 + 0) ((h 74 (l4 + 0)) + 1)) 74 (l4 + 4) < 2147483648 := by omega) (kt : (up h 74 (l4 + 0) ((h 74 (l4 + 0)) + 1)) 74 (l4 + 4) = (-1) → Wp mX10_weigh (kR fr M1 M2) Q (b1, b2) 101 [zR 55, zI l1, none, zI l3, zI l4] [] 137 (up (up h 74 (l4 + 0) ((h 74 (l4 + 0)) + 1)) 75 ((l1 * 96) + (l3 / 32)) (bOr (h 75 ((l1 * 96) + (l3 / 32))) (1 * 2 ^ (l3 % 32).toNat)))) (kf : ¬ (up h 74 (l4 + 0) ((h 74 (l4 + 0)) + 1)) 74 (l4 + 4) = (-1) → Wp mX10_weigh (kR fr M1 M2) Q (b1, b2) 85 [zR 55, zI l1, none, zI l3, zI l4] [] 137 (up (up h 74 (l4 + 0) ((h 74 (l4 + 0)) + 1)) 75 ((l1 * 96) + (l3 / 32)) (bOr (h 75 ((l1 * 96) + (l3 / 32))) (1 * 2 ^ (l3 % 32).toNat)))) : Wp mX10_weigh (kR fr M1 M2) Q (b1, b2) 36 [zR 55, zI l1, x2, zI l3, zI l4] [] 137 h := by
  refine s_fgt (fgt_c (fgt_c (fgt_n _ (fgt_c (fgt_c fgt_0))))) ?_
  refine s_aload_n (x := 55) dX10_weigh_36 rfl ?_
  refine s_getFd (c := 55) (d := 74) dX10_weigh_37 lX10_28 e55 (Or.inl rfl) (by decide) (by decide) ?_
  refine s_iload (x := l4) dX10_weigh_40 rfl ?_
  refine s_iconst dX10_weigh_42 ?_
  refine s_iadd dX10_weigh_43 ?_
  refine s_dup2 dX10_weigh_44 rfl rfl ?_
  refine s_iald (c := 74) (i := l4 + 0) dX10_weigh_45 e74 r1.1 r1.2 ?_
  refine s_iconst dX10_weigh_46 ?_
  refine s_iadd dX10_weigh_47 ?_
  refine s_iast (c := 74) (i := l4 + 0) dX10_weigh_48 e74 r1.1 r1.2 ?_
  refine s_aload_n (x := 55) dX10_weigh_49 rfl ?_
  refine s_getFd (c := 55) (d := 75) dX10_weigh_50 lX10_31 e55 (Or.inl rfl) (by decide) (by decide) ?_
  refine s_iload_n (x := l1) dX10_weigh_53 rfl ?_
  refine s_bipush dX10_weigh_54 (by decide) ?_
  refine s_imul dX10_weigh_56 ?_
  refine s_iload_n (x := l3) dX10_weigh_57 rfl ?_
  refine s_bipush dX10_weigh_58 (by decide) ?_
  refine s_idivN dX10_weigh_60 r2.1 r2.2 (by decide) (by decide) ?_
  refine s_iadd dX10_weigh_61 ?_
  refine s_dup2 dX10_weigh_62 rfl rfl ?_
  refine s_iald (c := 75) (i := (l1 * 96) + (l3 / 32)) dX10_weigh_63 e75 r3.1 r3.2 ?_
  refine s_iconst dX10_weigh_64 ?_
  refine s_iload_n (x := l3) dX10_weigh_65 rfl ?_
  refine s_bipush dX10_weigh_66 (by decide) ?_
  refine s_iremN dX10_weigh_68 r2.1 r2.2 (by decide) (by decide) ?_
  refine s_ishlN dX10_weigh_69 r4.1 r4.2 ?_
  refine s_ior dX10_weigh_70 ?_
  refine s_iast (c := 75) (i := (l1 * 96) + (l3 / 32)) dX10_weigh_71 e75 r3.1 r3.2 ?_
  refine s_aload_n (x := 55) dX10_weigh_72 rfl ?_
  refine s_getFd (c := 55) (d := 74) dX10_weigh_73 lX10_28 e55 (Or.inl rfl) (by decide) (by decide) ?_
  refine s_iload (x := l4) dX10_weigh_76 rfl ?_
  refine s_iconst dX10_weigh_78 ?_
  refine s_iadd dX10_weigh_79 ?_
  refine s_iald (c := 74) (i := l4 + 4) dX10_weigh_80 e74 r5.1 r5.2 ?_
  refine s_iconst dX10_weigh_81 ?_
  exact s_icmp_eq (tgt := 101) dX10_weigh_82 (by decide) r6 ⟨by decide, by decide⟩ kt kf
theorem bX10_weigh_85 {fr M1 M2 b1 b2 : Nat} {Q : RS → Nat → AH → Prop} {h : AH} {l3 l4 : Int} {x1 x2 : AV}  (r1 : 0 ≤ l4 + 2 ∧ l4 + 2 < 144 := by omega) (r2 : -2147483648 ≤ h 55 12 ∧ h 55 12 < 2147483648 := by omega) (r3 : -2147483648 ≤ h 74 (l4 + 2) ∧ h 74 (l4 + 2) < 2147483648 := by omega) (kt : h 74 (l4 + 2) ≤ h 55 12 → Wp mX10_weigh (kR fr M1 M2) Q (b1, b2) 124 [zR 55, none, none, zI l3, zI l4] [] 137 h) (kf : h 55 12 < h 74 (l4 + 2) → Wp mX10_weigh (kR fr M1 M2) Q (b1, b2) 101 [zR 55, none, none, zI l3, zI l4] [] 137 h) : Wp mX10_weigh (kR fr M1 M2) Q (b1, b2) 85 [zR 55, x1, x2, zI l3, zI l4] [] 137 h := by
  refine s_fgt (fgt_c (fgt_n _ (fgt_n _ (fgt_c (fgt_c fgt_0))))) ?_
  refine s_aload_n (x := 55) dX10_weigh_85 rfl ?_
  refine s_get (c := 55) dX10_weigh_86 lX10_93 e55 (by decide) ?_
  refine s_aload_n (x := 55) dX10_weigh_89 rfl ?_
  refine s_getFd (c := 55) (d := 74) dX10_weigh_90 lX10_28 e55 (Or.inl rfl) (by decide) (by decide) ?_
  refine s_iload (x := l4) dX10_weigh_93 rfl ?_
  refine s_iconst dX10_weigh_95 ?_
  refine s_iadd dX10_weigh_96 ?_
  refine s_iald (c := 74) (i := l4 + 2) dX10_weigh_97 e74 r1.1 r1.2 ?_
  exact s_icmp_ge (tgt := 124) dX10_weigh_98 (by decide) r2 r3 kt kf
theorem bX10_weigh_101 {fr M1 M2 b1 b2 : Nat} {Q : RS → Nat → AH → Prop} {h : AH} {l3 l4 : Int} {x1 x2 : AV}  (r1 : 0 ≤ l4 + 4 ∧ l4 + 4 < 144 := by omega) (r2 : 0 ≤ l4 + 2 ∧ l4 + 2 < 144 := by omega) (kk : Wp mX10_weigh (kR fr M1 M2) Q (b1, b2) 124 [zR 55, none, none, zI l3, zI l4] [] 137 (up (up h 74 (l4 + 4) l3) 74 (l4 + 2) (h 55 12))) : Wp mX10_weigh (kR fr M1 M2) Q (b1, b2) 101 [zR 55, x1, x2, zI l3, zI l4] [] 137 h := by
  refine s_fgt (fgt_c (fgt_n _ (fgt_n _ (fgt_c (fgt_c fgt_0))))) ?_
  refine s_aload_n (x := 55) dX10_weigh_101 rfl ?_
  refine s_getFd (c := 55) (d := 74) dX10_weigh_102 lX10_28 e55 (Or.inl rfl) (by decide) (by decide) ?_
  refine s_iload (x := l4) dX10_weigh_105 rfl ?_
  refine s_iconst dX10_weigh_107 ?_
  refine s_iadd dX10_weigh_108 ?_
  refine s_iload_n (x := l3) dX10_weigh_109 rfl ?_
  refine s_iast (c := 74) (i := l4 + 4) dX10_weigh_110 e74 r1.1 r1.2 ?_
  refine s_aload_n (x := 55) dX10_weigh_111 rfl ?_
  refine s_getFd (c := 55) (d := 74) dX10_weigh_112 lX10_28 e55 (Or.inl rfl) (by decide) (by decide) ?_
  refine s_iload (x := l4) dX10_weigh_115 rfl ?_
  refine s_iconst dX10_weigh_117 ?_
  refine s_iadd dX10_weigh_118 ?_
  refine s_aload_n (x := 55) dX10_weigh_119 rfl ?_
  refine s_get (c := 55) dX10_weigh_120 lX10_93 e55 (by decide) ?_
  refine s_iast (c := 74) (i := l4 + 2) dX10_weigh_123 e74 r2.1 r2.2 ?_
  exact kk
theorem bX10_weigh_124 {fr M1 M2 b1 b2 : Nat} {Q : RS → Nat → AH → Prop} {h : AH} {x0 x1 x2 x3 x4 : AV}   (hq : Q (.inl (some (zI 1))) 137 h) : Wp mX10_weigh (kR fr M1 M2) Q (b1, b2) 124 [x0, x1, x2, x3, x4] [] 137 h := by
  refine s_fgt (fgt_n _ (fgt_n _ (fgt_n _ (fgt_n _ (fgt_n _ fgt_0))))) ?_
  refine s_iconst dX10_weigh_124 ?_
  exact s_ireturn dX10_weigh_125 ⟨.int, rfl, rfl⟩ hq (fun z => by cases z)
theorem dX10_figure_0 : decode mX10_figure.cd 0 = .ok (.aload_n 0, 1) := by decide +kernel
theorem dX10_figure_1 : decode mX10_figure.cd 1 = .ok (.getfield 28, 3) := by decide +kernel
theorem dX10_figure_4 : decode mX10_figure.cd 4 = .ok (.iload_n 1, 1) := by decide +kernel
theorem dX10_figure_5 : decode mX10_figure.cd 5 = .ok (.bipush 6, 2) := by decide +kernel
theorem dX10_figure_7 : decode mX10_figure.cd 7 = .ok (.imul, 1) := by decide +kernel
theorem dX10_figure_8 : decode mX10_figure.cd 8 = .ok (.iload_n 2, 1) := by decide +kernel
theorem dX10_figure_9 : decode mX10_figure.cd 9 = .ok (.iadd, 1) := by decide +kernel
theorem dX10_figure_10 : decode mX10_figure.cd 10 = .ok (.iaload, 1) := by decide +kernel
theorem dX10_figure_11 : decode mX10_figure.cd 11 = .ok (.ireturn, 1) := by decide +kernel
theorem bX10_figure_0 {fr M1 M2 b1 b2 : Nat} {Q : RS → Nat → AH → Prop} {h : AH} {l1 l2 : Int}  (r1 : 0 ≤ (l1 * 6) + l2 ∧ (l1 * 6) + l2 < 144 := by omega) (hq : Q (.inl (some (zI (h 74 ((l1 * 6) + l2))))) 137 h) : Wp mX10_figure (kR fr M1 M2) Q (b1, b2) 0 [zR 55, zI l1, zI l2] [] 137 h := by
  refine s_aload_n (x := 55) dX10_figure_0 rfl ?_
  refine s_getFd (c := 55) (d := 74) dX10_figure_1 lX10_28 e55 (Or.inl rfl) (by decide) (by decide) ?_
  refine s_iload_n (x := l1) dX10_figure_4 rfl ?_
  refine s_bipush dX10_figure_5 (by decide) ?_
  refine s_imul dX10_figure_7 ?_
  refine s_iload_n (x := l2) dX10_figure_8 rfl ?_
  refine s_iadd dX10_figure_9 ?_
  refine s_iald (c := 74) (i := (l1 * 6) + l2) dX10_figure_10 e74 r1.1 r1.2 ?_
  exact s_ireturn dX10_figure_11 ⟨.int, rfl, rfl⟩ hq (fun z => by cases z)
theorem dX10_answersNow_0 : decode mX10_answersNow.cd 0 = .ok (.aload_n 0, 1) := by decide +kernel
theorem dX10_answersNow_1 : decode mX10_answersNow.cd 1 = .ok (.getfield 31, 3) := by decide +kernel
theorem dX10_answersNow_4 : decode mX10_answersNow.cd 4 = .ok (.iload_n 1, 1) := by decide +kernel
theorem dX10_answersNow_5 : decode mX10_answersNow.cd 5 = .ok (.bipush 96, 2) := by decide +kernel
theorem dX10_answersNow_7 : decode mX10_answersNow.cd 7 = .ok (.imul, 1) := by decide +kernel
theorem dX10_answersNow_8 : decode mX10_answersNow.cd 8 = .ok (.iload_n 2, 1) := by decide +kernel
theorem dX10_answersNow_9 : decode mX10_answersNow.cd 9 = .ok (.bipush 32, 2) := by decide +kernel
theorem dX10_answersNow_11 : decode mX10_answersNow.cd 11 = .ok (.idiv, 1) := by decide +kernel
theorem dX10_answersNow_12 : decode mX10_answersNow.cd 12 = .ok (.iadd, 1) := by decide +kernel
theorem dX10_answersNow_13 : decode mX10_answersNow.cd 13 = .ok (.iaload, 1) := by decide +kernel
theorem dX10_answersNow_14 : decode mX10_answersNow.cd 14 = .ok (.iload_n 2, 1) := by decide +kernel
theorem dX10_answersNow_15 : decode mX10_answersNow.cd 15 = .ok (.bipush 32, 2) := by decide +kernel
theorem dX10_answersNow_17 : decode mX10_answersNow.cd 17 = .ok (.irem, 1) := by decide +kernel
theorem dX10_answersNow_18 : decode mX10_answersNow.cd 18 = .ok (.ishr, 1) := by decide +kernel
theorem dX10_answersNow_19 : decode mX10_answersNow.cd 19 = .ok (.iconst 1, 1) := by decide +kernel
theorem dX10_answersNow_20 : decode mX10_answersNow.cd 20 = .ok (.iand, 1) := by decide +kernel
theorem dX10_answersNow_21 : decode mX10_answersNow.cd 21 = .ok (.ifCond .eq 7, 3) := by decide +kernel
theorem dX10_answersNow_24 : decode mX10_answersNow.cd 24 = .ok (.iconst 1, 1) := by decide +kernel
theorem dX10_answersNow_25 : decode mX10_answersNow.cd 25 = .ok (.goto 4, 3) := by decide +kernel
theorem dX10_answersNow_28 : decode mX10_answersNow.cd 28 = .ok (.iconst 0, 1) := by decide +kernel
theorem dX10_answersNow_29 : decode mX10_answersNow.cd 29 = .ok (.ireturn, 1) := by decide +kernel
theorem bX10_answersNow_0 {fr M1 M2 b1 b2 : Nat} {Q : RS → Nat → AH → Prop} {h : AH} {l1 l2 : Int}  (r1 : 0 ≤ l2 ∧ l2 < 2147483648 := by omega) (r2 : 0 ≤ (l1 * 96) + (l2 / 32) ∧ (l1 * 96) + (l2 / 32) < 2304 := by omega) (r3 : 0 ≤ l2 % 32 ∧ l2 % 32 < 32 := by omega) (r4 : -2147483648 ≤ h 75 ((l1 * 96) + (l2 / 32)) ∧ h 75 ((l1 * 96) + (l2 / 32)) < 2147483648 := by omega) (r5 : -2147483648 ≤ bAnd ((h 75 ((l1 * 96) + (l2 / 32))) / 2 ^ (l2 % 32).toNat) 1 ∧ bAnd ((h 75 ((l1 * 96) + (l2 / 32))) / 2 ^ (l2 % 32).toNat) 1 < 2147483648 := by omega) (kt : bAnd ((h 75 ((l1 * 96) + (l2 / 32))) / 2 ^ (l2 % 32).toNat) 1 = 0 → Wp mX10_answersNow (kR fr M1 M2) Q (b1, b2) 28 [zR 55, zI l1, zI l2] [] 137 h) (kf : ¬ bAnd ((h 75 ((l1 * 96) + (l2 / 32))) / 2 ^ (l2 % 32).toNat) 1 = 0 → Wp mX10_answersNow (kR fr M1 M2) Q (b1, b2) 24 [zR 55, zI l1, zI l2] [] 137 h) : Wp mX10_answersNow (kR fr M1 M2) Q (b1, b2) 0 [zR 55, zI l1, zI l2] [] 137 h := by
  refine s_aload_n (x := 55) dX10_answersNow_0 rfl ?_
  refine s_getFd (c := 55) (d := 75) dX10_answersNow_1 lX10_31 e55 (Or.inl rfl) (by decide) (by decide) ?_
  refine s_iload_n (x := l1) dX10_answersNow_4 rfl ?_
  refine s_bipush dX10_answersNow_5 (by decide) ?_
  refine s_imul dX10_answersNow_7 ?_
  refine s_iload_n (x := l2) dX10_answersNow_8 rfl ?_
  refine s_bipush dX10_answersNow_9 (by decide) ?_
  refine s_idivN dX10_answersNow_11 r1.1 r1.2 (by decide) (by decide) ?_
  refine s_iadd dX10_answersNow_12 ?_
  refine s_iald (c := 75) (i := (l1 * 96) + (l2 / 32)) dX10_answersNow_13 e75 r2.1 r2.2 ?_
  refine s_iload_n (x := l2) dX10_answersNow_14 rfl ?_
  refine s_bipush dX10_answersNow_15 (by decide) ?_
  refine s_iremN dX10_answersNow_17 r1.1 r1.2 (by decide) (by decide) ?_
  refine s_ishrN dX10_answersNow_18 r4 r3.1 r3.2 ?_
  refine s_iconst dX10_answersNow_19 ?_
  refine s_iand dX10_answersNow_20 ?_
  exact s_if_eq (tgt := 28) dX10_answersNow_21 (by decide) r5 kt kf
theorem bX10_answersNow_24 {fr M1 M2 b1 b2 : Nat} {Q : RS → Nat → AH → Prop} {h : AH} {x0 x1 x2 : AV}   (kk : Wp mX10_answersNow (kR fr M1 M2) Q (b1, b2) 29 [none, none, none] [zI 1] 137 h) : Wp mX10_answersNow (kR fr M1 M2) Q (b1, b2) 24 [x0, x1, x2] [] 137 h := by
  refine s_fgt (fgt_n _ (fgt_n _ (fgt_n _ fgt_0))) ?_
  refine s_iconst dX10_answersNow_24 ?_
  exact s_goto (tgt := 29) dX10_answersNow_25 (by decide) kk
theorem bX10_answersNow_28 {fr M1 M2 b1 b2 : Nat} {Q : RS → Nat → AH → Prop} {h : AH} {x0 x1 x2 : AV}   (kk : Wp mX10_answersNow (kR fr M1 M2) Q (b1, b2) 29 [none, none, none] [zI 0] 137 h) : Wp mX10_answersNow (kR fr M1 M2) Q (b1, b2) 28 [x0, x1, x2] [] 137 h := by
  refine s_fgt (fgt_n _ (fgt_n _ (fgt_n _ fgt_0))) ?_
  refine s_iconst dX10_answersNow_28 ?_
  exact kk
theorem bX10_answersNow_29 {fr M1 M2 b1 b2 : Nat} {Q : RS → Nat → AH → Prop} {h : AH} {s0 : Int} {x0 x1 x2 : AV}  (r1 : s0 = 0 ∨ s0 = 1 := by omega) (hq : Q (.inl (some (zI s0))) 137 h) : Wp mX10_answersNow (kR fr M1 M2) Q (b1, b2) 29 [x0, x1, x2] [zI s0] 137 h := by
  refine s_fgt (fgt_n _ (fgt_n _ (fgt_n _ fgt_0))) ?_
  exact s_ireturn dX10_answersNow_29 ⟨.boolean, rfl, bool_nar r1⟩ hq (fun z => by cases z)
theorem dX10_answering_0 : decode mX10_answering.cd 0 = .ok (.iload_n 2, 1) := by decide +kernel
theorem dX10_answering_1 : decode mX10_answering.cd 1 = .ok (.iconst (-1), 1) := by decide +kernel
theorem dX10_answering_2 : decode mX10_answering.cd 2 = .ok (.if_icmp .ne 15, 3) := by decide +kernel
theorem dX10_answering_5 : decode mX10_answering.cd 5 = .ok (.aload_n 0, 1) := by decide +kernel
theorem dX10_answering_6 : decode mX10_answering.cd 6 = .ok (.getfield 28, 3) := by decide +kernel
theorem dX10_answering_9 : decode mX10_answering.cd 9 = .ok (.iload_n 1, 1) := by decide +kernel
theorem dX10_answering_10 : decode mX10_answering.cd 10 = .ok (.bipush 6, 2) := by decide +kernel
theorem dX10_answering_12 : decode mX10_answering.cd 12 = .ok (.imul, 1) := by decide +kernel
theorem dX10_answering_13 : decode mX10_answering.cd 13 = .ok (.iconst 4, 1) := by decide +kernel
theorem dX10_answering_14 : decode mX10_answering.cd 14 = .ok (.iadd, 1) := by decide +kernel
theorem dX10_answering_15 : decode mX10_answering.cd 15 = .ok (.iaload, 1) := by decide +kernel
theorem dX10_answering_16 : decode mX10_answering.cd 16 = .ok (.ireturn, 1) := by decide +kernel
theorem dX10_answering_17 : decode mX10_answering.cd 17 = .ok (.iload_n 2, 1) := by decide +kernel
theorem dX10_answering_18 : decode mX10_answering.cd 18 = .ok (.ifCond .lt 18, 3) := by decide +kernel
theorem dX10_answering_21 : decode mX10_answering.cd 21 = .ok (.iload_n 2, 1) := by decide +kernel
theorem dX10_answering_22 : decode mX10_answering.cd 22 = .ok (.aload_n 0, 1) := by decide +kernel
theorem dX10_answering_23 : decode mX10_answering.cd 23 = .ok (.getfield 28, 3) := by decide +kernel
theorem dX10_answering_26 : decode mX10_answering.cd 26 = .ok (.iload_n 1, 1) := by decide +kernel
theorem dX10_answering_27 : decode mX10_answering.cd 27 = .ok (.bipush 6, 2) := by decide +kernel
theorem dX10_answering_29 : decode mX10_answering.cd 29 = .ok (.imul, 1) := by decide +kernel
theorem dX10_answering_30 : decode mX10_answering.cd 30 = .ok (.iconst 0, 1) := by decide +kernel
theorem dX10_answering_31 : decode mX10_answering.cd 31 = .ok (.iadd, 1) := by decide +kernel
theorem dX10_answering_32 : decode mX10_answering.cd 32 = .ok (.iaload, 1) := by decide +kernel
theorem dX10_answering_33 : decode mX10_answering.cd 33 = .ok (.if_icmp .lt 5, 3) := by decide +kernel
theorem dX10_answering_36 : decode mX10_answering.cd 36 = .ok (.iconst (-1), 1) := by decide +kernel
theorem dX10_answering_37 : decode mX10_answering.cd 37 = .ok (.ireturn, 1) := by decide +kernel
theorem dX10_answering_38 : decode mX10_answering.cd 38 = .ok (.iload_n 2, 1) := by decide +kernel
theorem dX10_answering_39 : decode mX10_answering.cd 39 = .ok (.istore_n 3, 1) := by decide +kernel
theorem dX10_answering_40 : decode mX10_answering.cd 40 = .ok (.iconst 0, 1) := by decide +kernel
theorem dX10_answering_41 : decode mX10_answering.cd 41 = .ok (.istore 4, 2) := by decide +kernel
theorem dX10_answering_43 : decode mX10_answering.cd 43 = .ok (.iload 4, 2) := by decide +kernel
theorem dX10_answering_45 : decode mX10_answering.cd 45 = .ok (.aload_n 0, 1) := by decide +kernel
theorem dX10_answering_46 : decode mX10_answering.cd 46 = .ok (.getfield 59, 3) := by decide +kernel
theorem dX10_answering_49 : decode mX10_answering.cd 49 = .ok (.if_icmp .ge 29, 3) := by decide +kernel
theorem dX10_answering_52 : decode mX10_answering.cd 52 = .ok (.aload_n 0, 1) := by decide +kernel
theorem dX10_answering_53 : decode mX10_answering.cd 53 = .ok (.iload_n 1, 1) := by decide +kernel
theorem dX10_answering_54 : decode mX10_answering.cd 54 = .ok (.iload 4, 2) := by decide +kernel
theorem dX10_answering_56 : decode mX10_answering.cd 56 = .ok (.invokevirtual 160, 3) := by decide +kernel
theorem dX10_answering_59 : decode mX10_answering.cd 59 = .ok (.ifCond .eq 13, 3) := by decide +kernel
theorem dX10_answering_62 : decode mX10_answering.cd 62 = .ok (.iload_n 3, 1) := by decide +kernel
theorem dX10_answering_63 : decode mX10_answering.cd 63 = .ok (.ifCond .ne 6, 3) := by decide +kernel
theorem dX10_answering_66 : decode mX10_answering.cd 66 = .ok (.iload 4, 2) := by decide +kernel
theorem dX10_answering_68 : decode mX10_answering.cd 68 = .ok (.ireturn, 1) := by decide +kernel
theorem dX10_answering_69 : decode mX10_answering.cd 69 = .ok (.iinc 3 (-1), 3) := by decide +kernel
theorem dX10_answering_72 : decode mX10_answering.cd 72 = .ok (.iinc 4 1, 3) := by decide +kernel
theorem dX10_answering_75 : decode mX10_answering.cd 75 = .ok (.goto (-32), 3) := by decide +kernel
theorem dX10_answering_78 : decode mX10_answering.cd 78 = .ok (.iconst (-1), 1) := by decide +kernel
theorem dX10_answering_79 : decode mX10_answering.cd 79 = .ok (.ireturn, 1) := by decide +kernel
theorem bX10_answering_0 {fr M1 M2 b1 b2 : Nat} {Q : RS → Nat → AH → Prop} {h : AH} {l1 l2 : Int} {x3 x4 : AV}  (r1 : -2147483648 ≤ l2 ∧ l2 < 2147483648 := by omega) (kt : ¬ l2 = (-1) → Wp mX10_answering (kR fr M1 M2) Q (b1, b2) 17 [zR 55, zI l1, zI l2, none, none] [] 137 h) (kf : l2 = (-1) → Wp mX10_answering (kR fr M1 M2) Q (b1, b2) 5 [zR 55, zI l1, zI l2, none, none] [] 137 h) : Wp mX10_answering (kR fr M1 M2) Q (b1, b2) 0 [zR 55, zI l1, zI l2, x3, x4] [] 137 h := by
  refine s_fgt (fgt_c (fgt_c (fgt_c (fgt_n _ (fgt_n _ fgt_0))))) ?_
  refine s_iload_n (x := l2) dX10_answering_0 rfl ?_
  refine s_iconst dX10_answering_1 ?_
  exact s_icmp_ne (tgt := 17) dX10_answering_2 (by decide) r1 ⟨by decide, by decide⟩ kt kf
theorem bX10_answering_5 {fr M1 M2 b1 b2 : Nat} {Q : RS → Nat → AH → Prop} {h : AH} {l1 : Int} {x2 x3 x4 : AV}  (r1 : 0 ≤ (l1 * 6) + 4 ∧ (l1 * 6) + 4 < 144 := by omega) (hq : Q (.inl (some (zI (h 74 ((l1 * 6) + 4))))) 137 h) : Wp mX10_answering (kR fr M1 M2) Q (b1, b2) 5 [zR 55, zI l1, x2, x3, x4] [] 137 h := by
  refine s_fgt (fgt_c (fgt_c (fgt_n _ (fgt_n _ (fgt_n _ fgt_0))))) ?_
  refine s_aload_n (x := 55) dX10_answering_5 rfl ?_
  refine s_getFd (c := 55) (d := 74) dX10_answering_6 lX10_28 e55 (Or.inl rfl) (by decide) (by decide) ?_
  refine s_iload_n (x := l1) dX10_answering_9 rfl ?_
  refine s_bipush dX10_answering_10 (by decide) ?_
  refine s_imul dX10_answering_12 ?_
  refine s_iconst dX10_answering_13 ?_
  refine s_iadd dX10_answering_14 ?_
  refine s_iald (c := 74) (i := (l1 * 6) + 4) dX10_answering_15 e74 r1.1 r1.2 ?_
  exact s_ireturn dX10_answering_16 ⟨.int, rfl, rfl⟩ hq (fun z => by cases z)
theorem bX10_answering_17 {fr M1 M2 b1 b2 : Nat} {Q : RS → Nat → AH → Prop} {h : AH} {l1 l2 : Int} {x3 x4 : AV}  (r1 : -2147483648 ≤ l2 ∧ l2 < 2147483648 := by omega) (kt : l2 < 0 → Wp mX10_answering (kR fr M1 M2) Q (b1, b2) 36 [zR 55, zI l1, zI l2, none, none] [] 137 h) (kf : 0 ≤ l2 → Wp mX10_answering (kR fr M1 M2) Q (b1, b2) 21 [zR 55, zI l1, zI l2, none, none] [] 137 h) : Wp mX10_answering (kR fr M1 M2) Q (b1, b2) 17 [zR 55, zI l1, zI l2, x3, x4] [] 137 h := by
  refine s_fgt (fgt_c (fgt_c (fgt_c (fgt_n _ (fgt_n _ fgt_0))))) ?_
  refine s_iload_n (x := l2) dX10_answering_17 rfl ?_
  exact s_if_lt (tgt := 36) dX10_answering_18 (by decide) r1 kt kf
theorem bX10_answering_21 {fr M1 M2 b1 b2 : Nat} {Q : RS → Nat → AH → Prop} {h : AH} {l1 l2 : Int} {x3 x4 : AV}  (r1 : 0 ≤ (l1 * 6) + 0 ∧ (l1 * 6) + 0 < 144 := by omega) (r2 : -2147483648 ≤ l2 ∧ l2 < 2147483648 := by omega) (r3 : -2147483648 ≤ h 74 ((l1 * 6) + 0) ∧ h 74 ((l1 * 6) + 0) < 2147483648 := by omega) (kt : l2 < h 74 ((l1 * 6) + 0) → Wp mX10_answering (kR fr M1 M2) Q (b1, b2) 38 [zR 55, zI l1, zI l2, none, none] [] 137 h) (kf : h 74 ((l1 * 6) + 0) ≤ l2 → Wp mX10_answering (kR fr M1 M2) Q (b1, b2) 36 [zR 55, zI l1, zI l2, none, none] [] 137 h) : Wp mX10_answering (kR fr M1 M2) Q (b1, b2) 21 [zR 55, zI l1, zI l2, x3, x4] [] 137 h := by
  refine s_fgt (fgt_c (fgt_c (fgt_c (fgt_n _ (fgt_n _ fgt_0))))) ?_
  refine s_iload_n (x := l2) dX10_answering_21 rfl ?_
  refine s_aload_n (x := 55) dX10_answering_22 rfl ?_
  refine s_getFd (c := 55) (d := 74) dX10_answering_23 lX10_28 e55 (Or.inl rfl) (by decide) (by decide) ?_
  refine s_iload_n (x := l1) dX10_answering_26 rfl ?_
  refine s_bipush dX10_answering_27 (by decide) ?_
  refine s_imul dX10_answering_29 ?_
  refine s_iconst dX10_answering_30 ?_
  refine s_iadd dX10_answering_31 ?_
  refine s_iald (c := 74) (i := (l1 * 6) + 0) dX10_answering_32 e74 r1.1 r1.2 ?_
  exact s_icmp_lt (tgt := 38) dX10_answering_33 (by decide) r2 r3 kt kf
theorem bX10_answering_36 {fr M1 M2 b1 b2 : Nat} {Q : RS → Nat → AH → Prop} {h : AH} {x0 x1 x2 x3 x4 : AV}   (hq : Q (.inl (some (zI (-1)))) 137 h) : Wp mX10_answering (kR fr M1 M2) Q (b1, b2) 36 [x0, x1, x2, x3, x4] [] 137 h := by
  refine s_fgt (fgt_n _ (fgt_n _ (fgt_n _ (fgt_n _ (fgt_n _ fgt_0))))) ?_
  refine s_iconst dX10_answering_36 ?_
  exact s_ireturn dX10_answering_37 ⟨.int, rfl, rfl⟩ hq (fun z => by cases z)
theorem bX10_answering_38 {fr M1 M2 b1 b2 : Nat} {Q : RS → Nat → AH → Prop} {h : AH} {l1 l2 : Int} {x3 x4 : AV}   (kk : Wp mX10_answering (kR fr M1 M2) Q (b1, b2) 43 [zR 55, zI l1, zI l2, zI l2, zI 0] [] 137 h) : Wp mX10_answering (kR fr M1 M2) Q (b1, b2) 38 [zR 55, zI l1, zI l2, x3, x4] [] 137 h := by
  refine s_fgt (fgt_c (fgt_c (fgt_c (fgt_n _ (fgt_n _ fgt_0))))) ?_
  refine s_iload_n (x := l2) dX10_answering_38 rfl ?_
  refine s_istore_n dX10_answering_39 rfl (by decide) ?_
  refine s_iconst dX10_answering_40 ?_
  refine s_istore dX10_answering_41 rfl (by decide) ?_
  exact kk
theorem bX10_answering_43 {fr M1 M2 b1 b2 : Nat} {Q : RS → Nat → AH → Prop} {h : AH} {l1 l3 l4 : Int} {x2 : AV}  (r1 : -2147483648 ≤ l4 ∧ l4 < 2147483648 := by omega) (r2 : -2147483648 ≤ h 55 1 ∧ h 55 1 < 2147483648 := by omega) (kt : h 55 1 ≤ l4 → Wp mX10_answering (kR fr M1 M2) Q (b1, b2) 78 [zR 55, zI l1, none, zI l3, zI l4] [] 137 h) (kf : l4 < h 55 1 → Wp mX10_answering (kR fr M1 M2) Q (b1, b2) 52 [zR 55, zI l1, none, zI l3, zI l4] [] 137 h) : Wp mX10_answering (kR fr M1 M2) Q (b1, b2) 43 [zR 55, zI l1, x2, zI l3, zI l4] [] 137 h := by
  refine s_fgt (fgt_c (fgt_c (fgt_n _ (fgt_c (fgt_c fgt_0))))) ?_
  refine s_iload (x := l4) dX10_answering_43 rfl ?_
  refine s_aload_n (x := 55) dX10_answering_45 rfl ?_
  refine s_get (c := 55) dX10_answering_46 lX10_59 e55 (by decide) ?_
  exact s_icmp_ge (tgt := 78) dX10_answering_49 (by decide) r1 r2 kt kf
theorem bX10_answering_52 {fr M1 M2 b1 b2 : Nat} {Q : RS → Nat → AH → Prop} {h : AH} {l1 l3 l4 : Int} {x2 : AV} {R : Int → AH → Prop}   (hS : Sp mX10_answersNow true (fr - 1) 0 0 [zR 55, zI l1, zI l4] 137 h (rI R)) (hf : 1 ≤ fr := by omega) (kk : ∀ (x : Int) (h' : AH), R x h' → Wp mX10_answering (kR fr M1 M2) Q (b1, b2) 59 [zR 55, zI l1, none, zI l3, zI l4] [zI x] 137 h') : Wp mX10_answering (kR fr M1 M2) Q (b1, b2) 52 [zR 55, zI l1, x2, zI l3, zI l4] [] 137 h := by
  refine s_fgt (fgt_c (fgt_c (fgt_n _ (fgt_c (fgt_c fgt_0))))) ?_
  refine s_aload_n (x := 55) dX10_answering_52 rfl ?_
  refine s_iload_n (x := l1) dX10_answering_53 rfl ?_
  refine s_iload (x := l4) dX10_answering_54 rfl ?_
  exact s_callV (as := [zI l1, zI l4]) (st := []) (o := 55) dX10_answering_56 kX10_160 rfl ⟨10, 16, TX10, e55, rfl, by decide⟩ rfl rfl (Nat.le_of_ble_eq_true rfl) hS (show fr - 1 + 1 ≤ fr by omega) (Nat.zero_le _) (Nat.zero_le _) (fun v n' h' hP _ => by obtain ⟨x, e, rfl, hR⟩ := hP; cases e; exact kk x h' hR) (fun E n' h' _ z => (rI_nt _ _ _ z).elim)
theorem bX10_answering_59 {fr M1 M2 b1 b2 : Nat} {Q : RS → Nat → AH → Prop} {h : AH} {l1 l3 l4 s0 : Int} {x2 : AV}  (r1 : -2147483648 ≤ s0 ∧ s0 < 2147483648 := by omega) (kt : s0 = 0 → Wp mX10_answering (kR fr M1 M2) Q (b1, b2) 72 [zR 55, zI l1, none, zI l3, zI l4] [] 137 h) (kf : ¬ s0 = 0 → Wp mX10_answering (kR fr M1 M2) Q (b1, b2) 62 [zR 55, zI l1, none, zI l3, zI l4] [] 137 h) : Wp mX10_answering (kR fr M1 M2) Q (b1, b2) 59 [zR 55, zI l1, x2, zI l3, zI l4] [zI s0] 137 h := by
  refine s_fgt (fgt_c (fgt_c (fgt_n _ (fgt_c (fgt_c fgt_0))))) ?_
  exact s_if_eq (tgt := 72) dX10_answering_59 (by decide) r1 kt kf
theorem bX10_answering_62 {fr M1 M2 b1 b2 : Nat} {Q : RS → Nat → AH → Prop} {h : AH} {l1 l3 l4 : Int} {x2 : AV}  (r1 : -2147483648 ≤ l3 ∧ l3 < 2147483648 := by omega) (kt : ¬ l3 = 0 → Wp mX10_answering (kR fr M1 M2) Q (b1, b2) 69 [zR 55, zI l1, none, zI l3, zI l4] [] 137 h) (kf : l3 = 0 → Wp mX10_answering (kR fr M1 M2) Q (b1, b2) 66 [zR 55, zI l1, none, zI l3, zI l4] [] 137 h) : Wp mX10_answering (kR fr M1 M2) Q (b1, b2) 62 [zR 55, zI l1, x2, zI l3, zI l4] [] 137 h := by
  refine s_fgt (fgt_c (fgt_c (fgt_n _ (fgt_c (fgt_c fgt_0))))) ?_
  refine s_iload_n (x := l3) dX10_answering_62 rfl ?_
  exact s_if_ne (tgt := 69) dX10_answering_63 (by decide) r1 kt kf
theorem bX10_answering_66 {fr M1 M2 b1 b2 : Nat} {Q : RS → Nat → AH → Prop} {h : AH} {l4 : Int} {x0 x1 x2 x3 : AV}   (hq : Q (.inl (some (zI l4))) 137 h) : Wp mX10_answering (kR fr M1 M2) Q (b1, b2) 66 [x0, x1, x2, x3, zI l4] [] 137 h := by
  refine s_fgt (fgt_n _ (fgt_n _ (fgt_n _ (fgt_n _ (fgt_c fgt_0))))) ?_
  refine s_iload (x := l4) dX10_answering_66 rfl ?_
  exact s_ireturn dX10_answering_68 ⟨.int, rfl, rfl⟩ hq (fun z => by cases z)
theorem bX10_answering_69 {fr M1 M2 b1 b2 : Nat} {Q : RS → Nat → AH → Prop} {h : AH} {l1 l3 l4 : Int} {x2 : AV}   (kk : Wp mX10_answering (kR fr M1 M2) Q (b1, b2) 72 [zR 55, zI l1, none, zI (l3 + (-1)), zI l4] [] 137 h) : Wp mX10_answering (kR fr M1 M2) Q (b1, b2) 69 [zR 55, zI l1, x2, zI l3, zI l4] [] 137 h := by
  refine s_fgt (fgt_c (fgt_c (fgt_n _ (fgt_c (fgt_c fgt_0))))) ?_
  refine s_iinc (x := l3) dX10_answering_69 rfl rfl (by decide) ?_
  exact kk
theorem bX10_answering_72 {fr M1 M2 b1 b2 : Nat} {Q : RS → Nat → AH → Prop} {h : AH} {l1 l3 l4 : Int} {x2 : AV}   (kk : Wp mX10_answering (kR fr M1 M2) Q (b1, b2) 43 [zR 55, zI l1, none, zI l3, zI (l4 + 1)] [] 137 h) : Wp mX10_answering (kR fr M1 M2) Q (b1, b2) 72 [zR 55, zI l1, x2, zI l3, zI l4] [] 137 h := by
  refine s_fgt (fgt_c (fgt_c (fgt_n _ (fgt_c (fgt_c fgt_0))))) ?_
  refine s_iinc (x := l4) dX10_answering_72 rfl rfl (by decide) ?_
  exact s_goto (tgt := 43) dX10_answering_75 (by decide) kk
theorem bX10_answering_78 {fr M1 M2 b1 b2 : Nat} {Q : RS → Nat → AH → Prop} {h : AH} {x0 x1 x2 x3 x4 : AV}   (hq : Q (.inl (some (zI (-1)))) 137 h) : Wp mX10_answering (kR fr M1 M2) Q (b1, b2) 78 [x0, x1, x2, x3, x4] [] 137 h := by
  refine s_fgt (fgt_n _ (fgt_n _ (fgt_n _ (fgt_n _ (fgt_n _ fgt_0))))) ?_
  refine s_iconst dX10_answering_78 ?_
  exact s_ireturn dX10_answering_79 ⟨.int, rfl, rfl⟩ hq (fun z => by cases z)
theorem dX10_partOf_0 : decode mX10_partOf.cd 0 = .ok (.iconst 0, 1) := by decide +kernel
theorem dX10_partOf_1 : decode mX10_partOf.cd 1 = .ok (.istore_n 3, 1) := by decide +kernel
theorem dX10_partOf_2 : decode mX10_partOf.cd 2 = .ok (.iload_n 1, 1) := by decide +kernel
theorem dX10_partOf_3 : decode mX10_partOf.cd 3 = .ok (.istore 4, 2) := by decide +kernel
theorem dX10_partOf_5 : decode mX10_partOf.cd 5 = .ok (.iload_n 3, 1) := by decide +kernel
theorem dX10_partOf_6 : decode mX10_partOf.cd 6 = .ok (.iconst 1, 1) := by decide +kernel
theorem dX10_partOf_7 : decode mX10_partOf.cd 7 = .ok (.iadd, 1) := by decide +kernel
theorem dX10_partOf_8 : decode mX10_partOf.cd 8 = .ok (.aload_n 0, 1) := by decide +kernel
theorem dX10_partOf_9 : decode mX10_partOf.cd 9 = .ok (.getfield 14, 3) := by decide +kernel
theorem dX10_partOf_12 : decode mX10_partOf.cd 12 = .ok (.getfield 68, 3) := by decide +kernel
theorem dX10_partOf_15 : decode mX10_partOf.cd 15 = .ok (.if_icmp .ge 31, 3) := by decide +kernel
theorem dX10_partOf_18 : decode mX10_partOf.cd 18 = .ok (.iload 4, 2) := by decide +kernel
theorem dX10_partOf_20 : decode mX10_partOf.cd 20 = .ok (.aload_n 0, 1) := by decide +kernel
theorem dX10_partOf_21 : decode mX10_partOf.cd 21 = .ok (.getfield 25, 3) := by decide +kernel
theorem dX10_partOf_24 : decode mX10_partOf.cd 24 = .ok (.iload_n 3, 1) := by decide +kernel
theorem dX10_partOf_25 : decode mX10_partOf.cd 25 = .ok (.iaload, 1) := by decide +kernel
theorem dX10_partOf_26 : decode mX10_partOf.cd 26 = .ok (.if_icmp .lt 20, 3) := by decide +kernel
theorem dX10_partOf_29 : decode mX10_partOf.cd 29 = .ok (.iload 4, 2) := by decide +kernel
theorem dX10_partOf_31 : decode mX10_partOf.cd 31 = .ok (.aload_n 0, 1) := by decide +kernel
theorem dX10_partOf_32 : decode mX10_partOf.cd 32 = .ok (.getfield 25, 3) := by decide +kernel
theorem dX10_partOf_35 : decode mX10_partOf.cd 35 = .ok (.iload_n 3, 1) := by decide +kernel
theorem dX10_partOf_36 : decode mX10_partOf.cd 36 = .ok (.iaload, 1) := by decide +kernel
theorem dX10_partOf_37 : decode mX10_partOf.cd 37 = .ok (.isub, 1) := by decide +kernel
theorem dX10_partOf_38 : decode mX10_partOf.cd 38 = .ok (.istore 4, 2) := by decide +kernel
theorem dX10_partOf_40 : decode mX10_partOf.cd 40 = .ok (.iinc 3 1, 3) := by decide +kernel
theorem dX10_partOf_43 : decode mX10_partOf.cd 43 = .ok (.goto (-38), 3) := by decide +kernel
theorem dX10_partOf_46 : decode mX10_partOf.cd 46 = .ok (.iload_n 2, 1) := by decide +kernel
theorem dX10_partOf_47 : decode mX10_partOf.cd 47 = .ok (.ifCond .ne 5, 3) := by decide +kernel
theorem dX10_partOf_50 : decode mX10_partOf.cd 50 = .ok (.iload_n 3, 1) := by decide +kernel
theorem dX10_partOf_51 : decode mX10_partOf.cd 51 = .ok (.ireturn, 1) := by decide +kernel
theorem dX10_partOf_52 : decode mX10_partOf.cd 52 = .ok (.iload_n 2, 1) := by decide +kernel
theorem dX10_partOf_53 : decode mX10_partOf.cd 53 = .ok (.aload_n 0, 1) := by decide +kernel
theorem dX10_partOf_54 : decode mX10_partOf.cd 54 = .ok (.getfield 14, 3) := by decide +kernel
theorem dX10_partOf_57 : decode mX10_partOf.cd 57 = .ok (.getfield 78, 3) := by decide +kernel
theorem dX10_partOf_60 : decode mX10_partOf.cd 60 = .ok (.iload_n 3, 1) := by decide +kernel
theorem dX10_partOf_61 : decode mX10_partOf.cd 61 = .ok (.iaload, 1) := by decide +kernel
theorem dX10_partOf_62 : decode mX10_partOf.cd 62 = .ok (.if_icmp .le 5, 3) := by decide +kernel
theorem dX10_partOf_65 : decode mX10_partOf.cd 65 = .ok (.iconst (-1), 1) := by decide +kernel
theorem dX10_partOf_66 : decode mX10_partOf.cd 66 = .ok (.ireturn, 1) := by decide +kernel
theorem dX10_partOf_67 : decode mX10_partOf.cd 67 = .ok (.aload_n 0, 1) := by decide +kernel
theorem dX10_partOf_68 : decode mX10_partOf.cd 68 = .ok (.iload_n 3, 1) := by decide +kernel
theorem dX10_partOf_69 : decode mX10_partOf.cd 69 = .ok (.iload 4, 2) := by decide +kernel
theorem dX10_partOf_71 : decode mX10_partOf.cd 71 = .ok (.invokevirtual 140, 3) := by decide +kernel
theorem dX10_partOf_74 : decode mX10_partOf.cd 74 = .ok (.aload_n 0, 1) := by decide +kernel
theorem dX10_partOf_75 : decode mX10_partOf.cd 75 = .ok (.getfield 34, 3) := by decide +kernel
theorem dX10_partOf_78 : decode mX10_partOf.cd 78 = .ok (.iload_n 2, 1) := by decide +kernel
theorem dX10_partOf_79 : decode mX10_partOf.cd 79 = .ok (.iconst 1, 1) := by decide +kernel
theorem dX10_partOf_80 : decode mX10_partOf.cd 80 = .ok (.isub, 1) := by decide +kernel
theorem dX10_partOf_81 : decode mX10_partOf.cd 81 = .ok (.iaload, 1) := by decide +kernel
theorem dX10_partOf_82 : decode mX10_partOf.cd 82 = .ok (.ireturn, 1) := by decide +kernel
theorem bX10_partOf_0 {fr M1 M2 b1 b2 : Nat} {Q : RS → Nat → AH → Prop} {h : AH} {l1 l2 : Int} {x3 x4 : AV}   (kk : Wp mX10_partOf (kR fr M1 M2) Q (b1, b2) 5 [zR 55, zI l1, zI l2, zI 0, zI l1] [] 137 h) : Wp mX10_partOf (kR fr M1 M2) Q (b1, b2) 0 [zR 55, zI l1, zI l2, x3, x4] [] 137 h := by
  refine s_fgt (fgt_c (fgt_c (fgt_c (fgt_n _ (fgt_n _ fgt_0))))) ?_
  refine s_iconst dX10_partOf_0 ?_
  refine s_istore_n dX10_partOf_1 rfl (by decide) ?_
  refine s_iload_n (x := l1) dX10_partOf_2 rfl ?_
  refine s_istore dX10_partOf_3 rfl (by decide) ?_
  exact kk
theorem bX10_partOf_5 {fr M1 M2 b1 b2 : Nat} {Q : RS → Nat → AH → Prop} {h : AH} {l2 l3 l4 : Int} {x1 : AV} (c1 : cel 137 (h 55 0) (2, 21) := by first | assumption | omega) (r1 : -2147483648 ≤ l3 + 1 ∧ l3 + 1 < 2147483648 := by omega) (r2 : -2147483648 ≤ h (h 55 0) 3 ∧ h (h 55 0) 3 < 2147483648 := by omega) (kt : h (h 55 0) 3 ≤ l3 + 1 → Wp mX10_partOf (kR fr M1 M2) Q (b1, b2) 46 [zR 55, none, zI l2, zI l3, zI l4] [] 137 h) (kf : l3 + 1 < h (h 55 0) 3 → Wp mX10_partOf (kR fr M1 M2) Q (b1, b2) 18 [zR 55, none, zI l2, zI l3, zI l4] [] 137 h) : Wp mX10_partOf (kR fr M1 M2) Q (b1, b2) 5 [zR 55, x1, zI l2, zI l3, zI l4] [] 137 h := by
  refine s_fgt (fgt_c (fgt_n _ (fgt_c (fgt_c (fgt_c fgt_0))))) ?_
  refine s_iload_n (x := l3) dX10_partOf_5 rfl ?_
  refine s_iconst dX10_partOf_6 ?_
  refine s_iadd dX10_partOf_7 ?_
  refine s_aload_n (x := 55) dX10_partOf_8 rfl ?_
  refine s_getR (c := 55) dX10_partOf_9 lX10_14 e55 rfl ?_
  refine s_get (c := h 55 0) dX10_partOf_12 lX10_68 c1 (by decide) ?_
  exact s_icmp_ge (tgt := 46) dX10_partOf_15 (by decide) r1 r2 kt kf
theorem bX10_partOf_18 {fr M1 M2 b1 b2 : Nat} {Q : RS → Nat → AH → Prop} {h : AH} {l2 l3 l4 : Int} {x1 : AV}  (r1 : 0 ≤ l3 ∧ l3 < 6 := by omega) (r2 : -2147483648 ≤ l4 ∧ l4 < 2147483648 := by omega) (r3 : -2147483648 ≤ h 73 l3 ∧ h 73 l3 < 2147483648 := by omega) (kt : l4 < h 73 l3 → Wp mX10_partOf (kR fr M1 M2) Q (b1, b2) 46 [zR 55, none, zI l2, zI l3, zI l4] [] 137 h) (kf : h 73 l3 ≤ l4 → Wp mX10_partOf (kR fr M1 M2) Q (b1, b2) 29 [zR 55, none, zI l2, zI l3, zI l4] [] 137 h) : Wp mX10_partOf (kR fr M1 M2) Q (b1, b2) 18 [zR 55, x1, zI l2, zI l3, zI l4] [] 137 h := by
  refine s_fgt (fgt_c (fgt_n _ (fgt_c (fgt_c (fgt_c fgt_0))))) ?_
  refine s_iload (x := l4) dX10_partOf_18 rfl ?_
  refine s_aload_n (x := 55) dX10_partOf_20 rfl ?_
  refine s_getFd (c := 55) (d := 73) dX10_partOf_21 lX10_25 e55 (Or.inl rfl) (by decide) (by decide) ?_
  refine s_iload_n (x := l3) dX10_partOf_24 rfl ?_
  refine s_iald (c := 73) (i := l3) dX10_partOf_25 e73 r1.1 r1.2 ?_
  exact s_icmp_lt (tgt := 46) dX10_partOf_26 (by decide) r2 r3 kt kf
theorem bX10_partOf_29 {fr M1 M2 b1 b2 : Nat} {Q : RS → Nat → AH → Prop} {h : AH} {l2 l3 l4 : Int} {x1 : AV}  (r1 : 0 ≤ l3 ∧ l3 < 6 := by omega) (kk : Wp mX10_partOf (kR fr M1 M2) Q (b1, b2) 5 [zR 55, none, zI l2, zI (l3 + 1), zI (l4 - (h 73 l3))] [] 137 h) : Wp mX10_partOf (kR fr M1 M2) Q (b1, b2) 29 [zR 55, x1, zI l2, zI l3, zI l4] [] 137 h := by
  refine s_fgt (fgt_c (fgt_n _ (fgt_c (fgt_c (fgt_c fgt_0))))) ?_
  refine s_iload (x := l4) dX10_partOf_29 rfl ?_
  refine s_aload_n (x := 55) dX10_partOf_31 rfl ?_
  refine s_getFd (c := 55) (d := 73) dX10_partOf_32 lX10_25 e55 (Or.inl rfl) (by decide) (by decide) ?_
  refine s_iload_n (x := l3) dX10_partOf_35 rfl ?_
  refine s_iald (c := 73) (i := l3) dX10_partOf_36 e73 r1.1 r1.2 ?_
  refine s_isub dX10_partOf_37 ?_
  refine s_istore dX10_partOf_38 rfl (by decide) ?_
  refine s_iinc (x := l3) dX10_partOf_40 rfl rfl (by decide) ?_
  exact s_goto (tgt := 5) dX10_partOf_43 (by decide) kk
theorem bX10_partOf_46 {fr M1 M2 b1 b2 : Nat} {Q : RS → Nat → AH → Prop} {h : AH} {l2 l3 l4 : Int} {x1 : AV}  (r1 : -2147483648 ≤ l2 ∧ l2 < 2147483648 := by omega) (kt : ¬ l2 = 0 → Wp mX10_partOf (kR fr M1 M2) Q (b1, b2) 52 [zR 55, none, zI l2, zI l3, zI l4] [] 137 h) (kf : l2 = 0 → Wp mX10_partOf (kR fr M1 M2) Q (b1, b2) 50 [zR 55, none, zI l2, zI l3, zI l4] [] 137 h) : Wp mX10_partOf (kR fr M1 M2) Q (b1, b2) 46 [zR 55, x1, zI l2, zI l3, zI l4] [] 137 h := by
  refine s_fgt (fgt_c (fgt_n _ (fgt_c (fgt_c (fgt_c fgt_0))))) ?_
  refine s_iload_n (x := l2) dX10_partOf_46 rfl ?_
  exact s_if_ne (tgt := 52) dX10_partOf_47 (by decide) r1 kt kf
theorem bX10_partOf_50 {fr M1 M2 b1 b2 : Nat} {Q : RS → Nat → AH → Prop} {h : AH} {l3 : Int} {x0 x1 x2 x4 : AV}   (hq : Q (.inl (some (zI l3))) 137 h) : Wp mX10_partOf (kR fr M1 M2) Q (b1, b2) 50 [x0, x1, x2, zI l3, x4] [] 137 h := by
  refine s_fgt (fgt_n _ (fgt_n _ (fgt_n _ (fgt_c (fgt_n _ fgt_0))))) ?_
  refine s_iload_n (x := l3) dX10_partOf_50 rfl ?_
  exact s_ireturn dX10_partOf_51 ⟨.int, rfl, rfl⟩ hq (fun z => by cases z)
theorem bX10_partOf_52 {fr M1 M2 b1 b2 : Nat} {Q : RS → Nat → AH → Prop} {h : AH} {l2 l3 l4 : Int} {x1 : AV} (c1 : cel 137 (h 55 0) (2, 21) := by first | assumption | omega) (r1 : 0 ≤ l3 ∧ l3 < 6 := by omega) (r2 : -2147483648 ≤ l2 ∧ l2 < 2147483648 := by omega) (r3 : -2147483648 ≤ h ((h 55 0) + 13) l3 ∧ h ((h 55 0) + 13) l3 < 2147483648 := by omega) (kt : l2 ≤ h ((h 55 0) + 13) l3 → Wp mX10_partOf (kR fr M1 M2) Q (b1, b2) 67 [zR 55, none, zI l2, zI l3, zI l4] [] 137 h) (kf : h ((h 55 0) + 13) l3 < l2 → Wp mX10_partOf (kR fr M1 M2) Q (b1, b2) 65 [zR 55, none, zI l2, zI l3, zI l4] [] 137 h) : Wp mX10_partOf (kR fr M1 M2) Q (b1, b2) 52 [zR 55, x1, zI l2, zI l3, zI l4] [] 137 h := by
  refine s_fgt (fgt_c (fgt_n _ (fgt_c (fgt_c (fgt_c fgt_0))))) ?_
  refine s_iload_n (x := l2) dX10_partOf_52 rfl ?_
  refine s_aload_n (x := 55) dX10_partOf_53 rfl ?_
  refine s_getR (c := 55) dX10_partOf_54 lX10_14 e55 rfl ?_
  refine s_getFd (c := h 55 0) (d := (h 55 0) + 13) dX10_partOf_57 lX10_78 c1 (Or.inl rfl) rfl (ne0 (fin_X2_19 c1)) ?_
  refine s_iload_n (x := l3) dX10_partOf_60 rfl ?_
  refine s_iald (c := (h 55 0) + 13) (i := l3) dX10_partOf_61 (fin_X2_19 c1) r1.1 r1.2 ?_
  exact s_icmp_le (tgt := 67) dX10_partOf_62 (by decide) r2 r3 kt kf
theorem bX10_partOf_65 {fr M1 M2 b1 b2 : Nat} {Q : RS → Nat → AH → Prop} {h : AH} {x0 x1 x2 x3 x4 : AV}   (hq : Q (.inl (some (zI (-1)))) 137 h) : Wp mX10_partOf (kR fr M1 M2) Q (b1, b2) 65 [x0, x1, x2, x3, x4] [] 137 h := by
  refine s_fgt (fgt_n _ (fgt_n _ (fgt_n _ (fgt_n _ (fgt_n _ fgt_0))))) ?_
  refine s_iconst dX10_partOf_65 ?_
  exact s_ireturn dX10_partOf_66 ⟨.int, rfl, rfl⟩ hq (fun z => by cases z)
theorem bX10_partOf_67 {fr M1 M2 b1 b2 : Nat} {Q : RS → Nat → AH → Prop} {h : AH} {l2 l3 l4 : Int} {x1 : AV} {R : AH → Prop}   (hS : Sp mX10_spell true (fr - 1) 0 0 [zR 55, zI l3, zI l4] 137 h (rV R)) (hf : 1 ≤ fr := by omega) (kk : ∀ h' : AH, R h' → Wp mX10_partOf (kR fr M1 M2) Q (b1, b2) 74 [zR 55, none, zI l2, zI l3, zI l4] [] 137 h') : Wp mX10_partOf (kR fr M1 M2) Q (b1, b2) 67 [zR 55, x1, zI l2, zI l3, zI l4] [] 137 h := by
  refine s_fgt (fgt_c (fgt_n _ (fgt_c (fgt_c (fgt_c fgt_0))))) ?_
  refine s_aload_n (x := 55) dX10_partOf_67 rfl ?_
  refine s_iload_n (x := l3) dX10_partOf_68 rfl ?_
  refine s_iload (x := l4) dX10_partOf_69 rfl ?_
  exact s_callV (as := [zI l3, zI l4]) (st := []) (o := 55) dX10_partOf_71 kX10_140 rfl ⟨10, 16, TX10, e55, rfl, by decide⟩ rfl rfl (Nat.le_of_ble_eq_true rfl) hS (show fr - 1 + 1 ≤ fr by omega) (Nat.zero_le _) (Nat.zero_le _) (fun v n' h' hP _ => by obtain ⟨e, rfl, hR⟩ := hP; cases e; exact kk h' hR) (fun E n' h' _ z => (rV_nt _ _ _ z).elim)
theorem bX10_partOf_74 {fr M1 M2 b1 b2 : Nat} {Q : RS → Nat → AH → Prop} {h : AH} {l2 : Int} {x1 x3 x4 : AV}  (r1 : 0 ≤ l2 - 1 ∧ l2 - 1 < 3 := by omega) (hq : Q (.inl (some (zI (h 76 (l2 - 1))))) 137 h) : Wp mX10_partOf (kR fr M1 M2) Q (b1, b2) 74 [zR 55, x1, zI l2, x3, x4] [] 137 h := by
  refine s_fgt (fgt_c (fgt_n _ (fgt_c (fgt_n _ (fgt_n _ fgt_0))))) ?_
  refine s_aload_n (x := 55) dX10_partOf_74 rfl ?_
  refine s_getFd (c := 55) (d := 76) dX10_partOf_75 lX10_34 e55 (Or.inl rfl) (by decide) (by decide) ?_
  refine s_iload_n (x := l2) dX10_partOf_78 rfl ?_
  refine s_iconst dX10_partOf_79 ?_
  refine s_isub dX10_partOf_80 ?_
  refine s_iald (c := 76) (i := l2 - 1) dX10_partOf_81 e76 r1.1 r1.2 ?_
  exact s_ireturn dX10_partOf_82 ⟨.int, rfl, rfl⟩ hq (fun z => by cases z)
theorem dX10_countStill_0 : decode mX10_countStill.cd 0 = .ok (.iconst 0, 1) := by decide +kernel
theorem dX10_countStill_1 : decode mX10_countStill.cd 1 = .ok (.istore 5, 2) := by decide +kernel
theorem dX10_countStill_3 : decode mX10_countStill.cd 3 = .ok (.iconst 0, 1) := by decide +kernel
theorem dX10_countStill_4 : decode mX10_countStill.cd 4 = .ok (.istore 6, 2) := by decide +kernel
theorem dX10_countStill_6 : decode mX10_countStill.cd 6 = .ok (.iconst 0, 1) := by decide +kernel
theorem dX10_countStill_7 : decode mX10_countStill.cd 7 = .ok (.istore 7, 2) := by decide +kernel
theorem dX10_countStill_9 : decode mX10_countStill.cd 9 = .ok (.iload 7, 2) := by decide +kernel
theorem dX10_countStill_11 : decode mX10_countStill.cd 11 = .ok (.aload_n 0, 1) := by decide +kernel
theorem dX10_countStill_12 : decode mX10_countStill.cd 12 = .ok (.getfield 14, 3) := by decide +kernel
theorem dX10_countStill_15 : decode mX10_countStill.cd 15 = .ok (.getfield 68, 3) := by decide +kernel
theorem dX10_countStill_18 : decode mX10_countStill.cd 18 = .ok (.if_icmp .ge 96, 3) := by decide +kernel
theorem dX10_countStill_21 : decode mX10_countStill.cd 21 = .ok (.iconst 0, 1) := by decide +kernel
theorem dX10_countStill_22 : decode mX10_countStill.cd 22 = .ok (.istore 8, 2) := by decide +kernel
theorem dX10_countStill_24 : decode mX10_countStill.cd 24 = .ok (.iload 8, 2) := by decide +kernel
theorem dX10_countStill_26 : decode mX10_countStill.cd 26 = .ok (.aload_n 0, 1) := by decide +kernel
theorem dX10_countStill_27 : decode mX10_countStill.cd 27 = .ok (.getfield 25, 3) := by decide +kernel
theorem dX10_countStill_30 : decode mX10_countStill.cd 30 = .ok (.iload 7, 2) := by decide +kernel
theorem dX10_countStill_32 : decode mX10_countStill.cd 32 = .ok (.iaload, 1) := by decide +kernel
theorem dX10_countStill_33 : decode mX10_countStill.cd 33 = .ok (.if_icmp .ge 63, 3) := by decide +kernel
theorem dX10_countStill_36 : decode mX10_countStill.cd 36 = .ok (.iload 5, 2) := by decide +kernel
theorem dX10_countStill_38 : decode mX10_countStill.cd 38 = .ok (.iload 4, 2) := by decide +kernel
theorem dX10_countStill_40 : decode mX10_countStill.cd 40 = .ok (.if_icmp .ge 56, 3) := by decide +kernel
theorem dX10_countStill_43 : decode mX10_countStill.cd 43 = .ok (.aload_n 0, 1) := by decide +kernel
theorem dX10_countStill_44 : decode mX10_countStill.cd 44 = .ok (.iload_n 1, 1) := by decide +kernel
theorem dX10_countStill_45 : decode mX10_countStill.cd 45 = .ok (.iload 6, 2) := by decide +kernel
theorem dX10_countStill_47 : decode mX10_countStill.cd 47 = .ok (.iload 8, 2) := by decide +kernel
theorem dX10_countStill_49 : decode mX10_countStill.cd 49 = .ok (.iadd, 1) := by decide +kernel
theorem dX10_countStill_50 : decode mX10_countStill.cd 50 = .ok (.invokevirtual 160, 3) := by decide +kernel
theorem dX10_countStill_53 : decode mX10_countStill.cd 53 = .ok (.ifCond .eq 37, 3) := by decide +kernel
theorem dX10_countStill_56 : decode mX10_countStill.cd 56 = .ok (.aload_n 0, 1) := by decide +kernel
theorem dX10_countStill_57 : decode mX10_countStill.cd 57 = .ok (.iload 7, 2) := by decide +kernel
theorem dX10_countStill_59 : decode mX10_countStill.cd 59 = .ok (.iload 8, 2) := by decide +kernel
theorem dX10_countStill_61 : decode mX10_countStill.cd 61 = .ok (.invokevirtual 140, 3) := by decide +kernel
theorem dX10_countStill_64 : decode mX10_countStill.cd 64 = .ok (.iload 5, 2) := by decide +kernel
theorem dX10_countStill_66 : decode mX10_countStill.cd 66 = .ok (.aload_n 0, 1) := by decide +kernel
theorem dX10_countStill_67 : decode mX10_countStill.cd 67 = .ok (.aload_n 2, 1) := by decide +kernel
theorem dX10_countStill_68 : decode mX10_countStill.cd 68 = .ok (.aload_n 3, 1) := by decide +kernel
theorem dX10_countStill_69 : decode mX10_countStill.cd 69 = .ok (.invokevirtual 144, 3) := by decide +kernel
theorem dX10_countStill_72 : decode mX10_countStill.cd 72 = .ok (.ifCond .eq 14, 3) := by decide +kernel
theorem dX10_countStill_75 : decode mX10_countStill.cd 75 = .ok (.aload_n 0, 1) := by decide +kernel
theorem dX10_countStill_76 : decode mX10_countStill.cd 76 = .ok (.invokevirtual 156, 3) := by decide +kernel
theorem dX10_countStill_79 : decode mX10_countStill.cd 79 = .ok (.ifCond .eq 7, 3) := by decide +kernel
theorem dX10_countStill_82 : decode mX10_countStill.cd 82 = .ok (.iconst 1, 1) := by decide +kernel
theorem dX10_countStill_83 : decode mX10_countStill.cd 83 = .ok (.goto 4, 3) := by decide +kernel
theorem dX10_countStill_86 : decode mX10_countStill.cd 86 = .ok (.iconst 0, 1) := by decide +kernel
theorem dX10_countStill_87 : decode mX10_countStill.cd 87 = .ok (.iadd, 1) := by decide +kernel
theorem dX10_countStill_88 : decode mX10_countStill.cd 88 = .ok (.istore 5, 2) := by decide +kernel
theorem dX10_countStill_90 : decode mX10_countStill.cd 90 = .ok (.iinc 8 1, 3) := by decide +kernel
theorem dX10_countStill_93 : decode mX10_countStill.cd 93 = .ok (.goto (-69), 3) := by decide +kernel
theorem dX10_countStill_96 : decode mX10_countStill.cd 96 = .ok (.iload 6, 2) := by decide +kernel
theorem dX10_countStill_98 : decode mX10_countStill.cd 98 = .ok (.aload_n 0, 1) := by decide +kernel
theorem dX10_countStill_99 : decode mX10_countStill.cd 99 = .ok (.getfield 25, 3) := by decide +kernel
theorem dX10_countStill_102 : decode mX10_countStill.cd 102 = .ok (.iload 7, 2) := by decide +kernel
theorem dX10_countStill_104 : decode mX10_countStill.cd 104 = .ok (.iaload, 1) := by decide +kernel
theorem dX10_countStill_105 : decode mX10_countStill.cd 105 = .ok (.iadd, 1) := by decide +kernel
theorem dX10_countStill_106 : decode mX10_countStill.cd 106 = .ok (.istore 6, 2) := by decide +kernel
theorem dX10_countStill_108 : decode mX10_countStill.cd 108 = .ok (.iinc 7 1, 3) := by decide +kernel
theorem dX10_countStill_111 : decode mX10_countStill.cd 111 = .ok (.goto (-102), 3) := by decide +kernel
theorem dX10_countStill_114 : decode mX10_countStill.cd 114 = .ok (.iload 5, 2) := by decide +kernel
theorem dX10_countStill_116 : decode mX10_countStill.cd 116 = .ok (.ireturn, 1) := by decide +kernel
theorem bX10_countStill_0 {fr M1 M2 b1 b2 : Nat} {Q : RS → Nat → AH → Prop} {h : AH} {l1 l3 l4 : Int} {x5 x6 x7 x8 : AV}   (kk : Wp mX10_countStill (kR fr M1 M2) Q (b1, b2) 9 [zR 55, zI l1, zR 51, zR l3, zI l4, zI 0, zI 0, zI 0, none] [] 137 h) : Wp mX10_countStill (kR fr M1 M2) Q (b1, b2) 0 [zR 55, zI l1, zR 51, zR l3, zI l4, x5, x6, x7, x8] [] 137 h := by
  refine s_fgt (fgt_c (fgt_c (fgt_c (fgt_c (fgt_c (fgt_n _ (fgt_n _ (fgt_n _ (fgt_n _ fgt_0))))))))) ?_
  refine s_iconst dX10_countStill_0 ?_
  refine s_istore dX10_countStill_1 rfl (by decide) ?_
  refine s_iconst dX10_countStill_3 ?_
  refine s_istore dX10_countStill_4 rfl (by decide) ?_
  refine s_iconst dX10_countStill_6 ?_
  refine s_istore dX10_countStill_7 rfl (by decide) ?_
  exact kk
theorem bX10_countStill_9 {fr M1 M2 b1 b2 : Nat} {Q : RS → Nat → AH → Prop} {h : AH} {l1 l3 l4 l5 l6 l7 : Int} {x8 : AV} (c1 : cel 137 (h 55 0) (2, 21) := by first | assumption | omega) (r1 : -2147483648 ≤ l7 ∧ l7 < 2147483648 := by omega) (r2 : -2147483648 ≤ h (h 55 0) 3 ∧ h (h 55 0) 3 < 2147483648 := by omega) (kt : h (h 55 0) 3 ≤ l7 → Wp mX10_countStill (kR fr M1 M2) Q (b1, b2) 114 [zR 55, zI l1, zR 51, zR l3, zI l4, zI l5, zI l6, zI l7, none] [] 137 h) (kf : l7 < h (h 55 0) 3 → Wp mX10_countStill (kR fr M1 M2) Q (b1, b2) 21 [zR 55, zI l1, zR 51, zR l3, zI l4, zI l5, zI l6, zI l7, none] [] 137 h) : Wp mX10_countStill (kR fr M1 M2) Q (b1, b2) 9 [zR 55, zI l1, zR 51, zR l3, zI l4, zI l5, zI l6, zI l7, x8] [] 137 h := by
  refine s_fgt (fgt_c (fgt_c (fgt_c (fgt_c (fgt_c (fgt_c (fgt_c (fgt_c (fgt_n _ fgt_0))))))))) ?_
  refine s_iload (x := l7) dX10_countStill_9 rfl ?_
  refine s_aload_n (x := 55) dX10_countStill_11 rfl ?_
  refine s_getR (c := 55) dX10_countStill_12 lX10_14 e55 rfl ?_
  refine s_get (c := h 55 0) dX10_countStill_15 lX10_68 c1 (by decide) ?_
  exact s_icmp_ge (tgt := 114) dX10_countStill_18 (by decide) r1 r2 kt kf
theorem bX10_countStill_21 {fr M1 M2 b1 b2 : Nat} {Q : RS → Nat → AH → Prop} {h : AH} {l1 l3 l4 l5 l6 l7 : Int} {x8 : AV}   (kk : Wp mX10_countStill (kR fr M1 M2) Q (b1, b2) 24 [zR 55, zI l1, zR 51, zR l3, zI l4, zI l5, zI l6, zI l7, zI 0] [] 137 h) : Wp mX10_countStill (kR fr M1 M2) Q (b1, b2) 21 [zR 55, zI l1, zR 51, zR l3, zI l4, zI l5, zI l6, zI l7, x8] [] 137 h := by
  refine s_fgt (fgt_c (fgt_c (fgt_c (fgt_c (fgt_c (fgt_c (fgt_c (fgt_c (fgt_n _ fgt_0))))))))) ?_
  refine s_iconst dX10_countStill_21 ?_
  refine s_istore dX10_countStill_22 rfl (by decide) ?_
  exact kk
theorem bX10_countStill_24 {fr M1 M2 b1 b2 : Nat} {Q : RS → Nat → AH → Prop} {h : AH} {l1 l3 l4 l5 l6 l7 l8 : Int}  (r1 : 0 ≤ l7 ∧ l7 < 6 := by omega) (r2 : -2147483648 ≤ l8 ∧ l8 < 2147483648 := by omega) (r3 : -2147483648 ≤ h 73 l7 ∧ h 73 l7 < 2147483648 := by omega) (kt : h 73 l7 ≤ l8 → Wp mX10_countStill (kR fr M1 M2) Q (b1, b2) 96 [zR 55, zI l1, zR 51, zR l3, zI l4, zI l5, zI l6, zI l7, zI l8] [] 137 h) (kf : l8 < h 73 l7 → Wp mX10_countStill (kR fr M1 M2) Q (b1, b2) 36 [zR 55, zI l1, zR 51, zR l3, zI l4, zI l5, zI l6, zI l7, zI l8] [] 137 h) : Wp mX10_countStill (kR fr M1 M2) Q (b1, b2) 24 [zR 55, zI l1, zR 51, zR l3, zI l4, zI l5, zI l6, zI l7, zI l8] [] 137 h := by
  refine s_iload (x := l8) dX10_countStill_24 rfl ?_
  refine s_aload_n (x := 55) dX10_countStill_26 rfl ?_
  refine s_getFd (c := 55) (d := 73) dX10_countStill_27 lX10_25 e55 (Or.inl rfl) (by decide) (by decide) ?_
  refine s_iload (x := l7) dX10_countStill_30 rfl ?_
  refine s_iald (c := 73) (i := l7) dX10_countStill_32 e73 r1.1 r1.2 ?_
  exact s_icmp_ge (tgt := 96) dX10_countStill_33 (by decide) r2 r3 kt kf
theorem bX10_countStill_36 {fr M1 M2 b1 b2 : Nat} {Q : RS → Nat → AH → Prop} {h : AH} {l1 l3 l4 l5 l6 l7 l8 : Int}  (r1 : -2147483648 ≤ l5 ∧ l5 < 2147483648 := by omega) (r2 : -2147483648 ≤ l4 ∧ l4 < 2147483648 := by omega) (kt : l4 ≤ l5 → Wp mX10_countStill (kR fr M1 M2) Q (b1, b2) 96 [zR 55, zI l1, zR 51, zR l3, zI l4, zI l5, zI l6, zI l7, zI l8] [] 137 h) (kf : l5 < l4 → Wp mX10_countStill (kR fr M1 M2) Q (b1, b2) 43 [zR 55, zI l1, zR 51, zR l3, zI l4, zI l5, zI l6, zI l7, zI l8] [] 137 h) : Wp mX10_countStill (kR fr M1 M2) Q (b1, b2) 36 [zR 55, zI l1, zR 51, zR l3, zI l4, zI l5, zI l6, zI l7, zI l8] [] 137 h := by
  refine s_iload (x := l5) dX10_countStill_36 rfl ?_
  refine s_iload (x := l4) dX10_countStill_38 rfl ?_
  exact s_icmp_ge (tgt := 96) dX10_countStill_40 (by decide) r1 r2 kt kf
theorem bX10_countStill_43 {fr M1 M2 b1 b2 : Nat} {Q : RS → Nat → AH → Prop} {h : AH} {l1 l3 l4 l5 l6 l7 l8 : Int} {R : Int → AH → Prop}   (hS : Sp mX10_answersNow true (fr - 1) 0 0 [zR 55, zI l1, zI (l6 + l8)] 137 h (rI R)) (hf : 1 ≤ fr := by omega) (kk : ∀ (x : Int) (h' : AH), R x h' → Wp mX10_countStill (kR fr M1 M2) Q (b1, b2) 53 [zR 55, zI l1, zR 51, zR l3, zI l4, zI l5, zI l6, zI l7, zI l8] [zI x] 137 h') : Wp mX10_countStill (kR fr M1 M2) Q (b1, b2) 43 [zR 55, zI l1, zR 51, zR l3, zI l4, zI l5, zI l6, zI l7, zI l8] [] 137 h := by
  refine s_aload_n (x := 55) dX10_countStill_43 rfl ?_
  refine s_iload_n (x := l1) dX10_countStill_44 rfl ?_
  refine s_iload (x := l6) dX10_countStill_45 rfl ?_
  refine s_iload (x := l8) dX10_countStill_47 rfl ?_
  refine s_iadd dX10_countStill_49 ?_
  exact s_callV (as := [zI l1, zI (l6 + l8)]) (st := []) (o := 55) dX10_countStill_50 kX10_160 rfl ⟨10, 16, TX10, e55, rfl, by decide⟩ rfl rfl (Nat.le_of_ble_eq_true rfl) hS (show fr - 1 + 1 ≤ fr by omega) (Nat.zero_le _) (Nat.zero_le _) (fun v n' h' hP _ => by obtain ⟨x, e, rfl, hR⟩ := hP; cases e; exact kk x h' hR) (fun E n' h' _ z => (rI_nt _ _ _ z).elim)
theorem bX10_countStill_53 {fr M1 M2 b1 b2 : Nat} {Q : RS → Nat → AH → Prop} {h : AH} {l1 l3 l4 l5 l6 l7 l8 s0 : Int}  (r1 : -2147483648 ≤ s0 ∧ s0 < 2147483648 := by omega) (kt : s0 = 0 → Wp mX10_countStill (kR fr M1 M2) Q (b1, b2) 90 [zR 55, zI l1, zR 51, zR l3, zI l4, zI l5, zI l6, zI l7, zI l8] [] 137 h) (kf : ¬ s0 = 0 → Wp mX10_countStill (kR fr M1 M2) Q (b1, b2) 56 [zR 55, zI l1, zR 51, zR l3, zI l4, zI l5, zI l6, zI l7, zI l8] [] 137 h) : Wp mX10_countStill (kR fr M1 M2) Q (b1, b2) 53 [zR 55, zI l1, zR 51, zR l3, zI l4, zI l5, zI l6, zI l7, zI l8] [zI s0] 137 h := by
  exact s_if_eq (tgt := 90) dX10_countStill_53 (by decide) r1 kt kf
theorem bX10_countStill_56 {fr M1 M2 b1 b2 : Nat} {Q : RS → Nat → AH → Prop} {h : AH} {l1 l3 l4 l5 l6 l7 l8 : Int} {R : AH → Prop}   (hS : Sp mX10_spell true (fr - 1) 0 0 [zR 55, zI l7, zI l8] 137 h (rV R)) (hf : 1 ≤ fr := by omega) (kk : ∀ h' : AH, R h' → Wp mX10_countStill (kR fr M1 M2) Q (b1, b2) 64 [zR 55, zI l1, zR 51, zR l3, zI l4, zI l5, zI l6, zI l7, zI l8] [] 137 h') : Wp mX10_countStill (kR fr M1 M2) Q (b1, b2) 56 [zR 55, zI l1, zR 51, zR l3, zI l4, zI l5, zI l6, zI l7, zI l8] [] 137 h := by
  refine s_aload_n (x := 55) dX10_countStill_56 rfl ?_
  refine s_iload (x := l7) dX10_countStill_57 rfl ?_
  refine s_iload (x := l8) dX10_countStill_59 rfl ?_
  exact s_callV (as := [zI l7, zI l8]) (st := []) (o := 55) dX10_countStill_61 kX10_140 rfl ⟨10, 16, TX10, e55, rfl, by decide⟩ rfl rfl (Nat.le_of_ble_eq_true rfl) hS (show fr - 1 + 1 ≤ fr by omega) (Nat.zero_le _) (Nat.zero_le _) (fun v n' h' hP _ => by obtain ⟨e, rfl, hR⟩ := hP; cases e; exact kk h' hR) (fun E n' h' _ z => (rV_nt _ _ _ z).elim)
theorem bX10_countStill_64 {fr M1 M2 b1 b2 : Nat} {Q : RS → Nat → AH → Prop} {h : AH} {l1 l3 l4 l5 l6 l7 l8 : Int} {R : Int → AH → Prop}   (hS : Sp mX10_listen true (fr - 1) 0 0 [zR 55, zR 51, zR l3] 137 h (rI R)) (hf : 1 ≤ fr := by omega) (kk : ∀ (x : Int) (h' : AH), R x h' → Wp mX10_countStill (kR fr M1 M2) Q (b1, b2) 72 [zR 55, zI l1, zR 51, zR l3, zI l4, zI l5, zI l6, zI l7, zI l8] [zI x, zI l5] 137 h') : Wp mX10_countStill (kR fr M1 M2) Q (b1, b2) 64 [zR 55, zI l1, zR 51, zR l3, zI l4, zI l5, zI l6, zI l7, zI l8] [] 137 h := by
  refine s_iload (x := l5) dX10_countStill_64 rfl ?_
  refine s_aload_n (x := 55) dX10_countStill_66 rfl ?_
  refine s_aload_n (x := 51) dX10_countStill_67 rfl ?_
  refine s_aload_n (x := l3) dX10_countStill_68 rfl ?_
  exact s_callV (as := [zR 51, zR l3]) (st := [zI l5]) (o := 55) dX10_countStill_69 kX10_144 rfl ⟨10, 16, TX10, e55, rfl, by decide⟩ rfl rfl (Nat.le_of_ble_eq_true rfl) hS (show fr - 1 + 1 ≤ fr by omega) (Nat.zero_le _) (Nat.zero_le _) (fun v n' h' hP _ => by obtain ⟨x, e, rfl, hR⟩ := hP; cases e; exact kk x h' hR) (fun E n' h' _ z => (rI_nt _ _ _ z).elim)
theorem bX10_countStill_72 {fr M1 M2 b1 b2 : Nat} {Q : RS → Nat → AH → Prop} {h : AH} {l1 l3 l4 l6 l7 l8 s1 s0 : Int} {x5 : AV}  (r1 : -2147483648 ≤ s0 ∧ s0 < 2147483648 := by omega) (kt : s0 = 0 → Wp mX10_countStill (kR fr M1 M2) Q (b1, b2) 86 [zR 55, zI l1, zR 51, zR l3, zI l4, none, zI l6, zI l7, zI l8] [zI s1] 137 h) (kf : ¬ s0 = 0 → Wp mX10_countStill (kR fr M1 M2) Q (b1, b2) 75 [zR 55, zI l1, zR 51, zR l3, zI l4, none, zI l6, zI l7, zI l8] [zI s1] 137 h) : Wp mX10_countStill (kR fr M1 M2) Q (b1, b2) 72 [zR 55, zI l1, zR 51, zR l3, zI l4, x5, zI l6, zI l7, zI l8] [zI s0, zI s1] 137 h := by
  refine s_fgt (fgt_c (fgt_c (fgt_c (fgt_c (fgt_c (fgt_n _ (fgt_c (fgt_c (fgt_c fgt_0))))))))) ?_
  exact s_if_eq (tgt := 86) dX10_countStill_72 (by decide) r1 kt kf
theorem bX10_countStill_75 {fr M1 M2 b1 b2 : Nat} {Q : RS → Nat → AH → Prop} {h : AH} {l1 l3 l4 l6 l7 l8 s0 : Int} {x5 : AV} {R : Int → AH → Prop}   (hS : Sp mX10_isLine true (fr - 1) 0 0 [zR 55] 137 h (rI R)) (hf : 1 ≤ fr := by omega) (kk : ∀ (x : Int) (h' : AH), R x h' → Wp mX10_countStill (kR fr M1 M2) Q (b1, b2) 79 [zR 55, zI l1, zR 51, zR l3, zI l4, none, zI l6, zI l7, zI l8] [zI x, zI s0] 137 h') : Wp mX10_countStill (kR fr M1 M2) Q (b1, b2) 75 [zR 55, zI l1, zR 51, zR l3, zI l4, x5, zI l6, zI l7, zI l8] [zI s0] 137 h := by
  refine s_fgt (fgt_c (fgt_c (fgt_c (fgt_c (fgt_c (fgt_n _ (fgt_c (fgt_c (fgt_c fgt_0))))))))) ?_
  refine s_aload_n (x := 55) dX10_countStill_75 rfl ?_
  exact s_callV (as := []) (st := [zI s0]) (o := 55) dX10_countStill_76 kX10_156 rfl ⟨10, 16, TX10, e55, rfl, by decide⟩ rfl rfl (Nat.le_of_ble_eq_true rfl) hS (show fr - 1 + 1 ≤ fr by omega) (Nat.zero_le _) (Nat.zero_le _) (fun v n' h' hP _ => by obtain ⟨x, e, rfl, hR⟩ := hP; cases e; exact kk x h' hR) (fun E n' h' _ z => (rI_nt _ _ _ z).elim)
theorem bX10_countStill_79 {fr M1 M2 b1 b2 : Nat} {Q : RS → Nat → AH → Prop} {h : AH} {l1 l3 l4 l6 l7 l8 s1 s0 : Int} {x5 : AV}  (r1 : -2147483648 ≤ s0 ∧ s0 < 2147483648 := by omega) (kt : s0 = 0 → Wp mX10_countStill (kR fr M1 M2) Q (b1, b2) 86 [zR 55, zI l1, zR 51, zR l3, zI l4, none, zI l6, zI l7, zI l8] [zI s1] 137 h) (kf : ¬ s0 = 0 → Wp mX10_countStill (kR fr M1 M2) Q (b1, b2) 82 [zR 55, zI l1, zR 51, zR l3, zI l4, none, zI l6, zI l7, zI l8] [zI s1] 137 h) : Wp mX10_countStill (kR fr M1 M2) Q (b1, b2) 79 [zR 55, zI l1, zR 51, zR l3, zI l4, x5, zI l6, zI l7, zI l8] [zI s0, zI s1] 137 h := by
  refine s_fgt (fgt_c (fgt_c (fgt_c (fgt_c (fgt_c (fgt_n _ (fgt_c (fgt_c (fgt_c fgt_0))))))))) ?_
  exact s_if_eq (tgt := 86) dX10_countStill_79 (by decide) r1 kt kf
theorem bX10_countStill_82 {fr M1 M2 b1 b2 : Nat} {Q : RS → Nat → AH → Prop} {h : AH} {l1 l3 l4 l6 l7 l8 s0 : Int} {x5 : AV}   (kk : Wp mX10_countStill (kR fr M1 M2) Q (b1, b2) 87 [zR 55, zI l1, zR 51, zR l3, zI l4, none, zI l6, zI l7, zI l8] [zI 1, zI s0] 137 h) : Wp mX10_countStill (kR fr M1 M2) Q (b1, b2) 82 [zR 55, zI l1, zR 51, zR l3, zI l4, x5, zI l6, zI l7, zI l8] [zI s0] 137 h := by
  refine s_fgt (fgt_c (fgt_c (fgt_c (fgt_c (fgt_c (fgt_n _ (fgt_c (fgt_c (fgt_c fgt_0))))))))) ?_
  refine s_iconst dX10_countStill_82 ?_
  exact s_goto (tgt := 87) dX10_countStill_83 (by decide) kk
theorem bX10_countStill_86 {fr M1 M2 b1 b2 : Nat} {Q : RS → Nat → AH → Prop} {h : AH} {l1 l3 l4 l6 l7 l8 s0 : Int} {x5 : AV}   (kk : Wp mX10_countStill (kR fr M1 M2) Q (b1, b2) 87 [zR 55, zI l1, zR 51, zR l3, zI l4, none, zI l6, zI l7, zI l8] [zI 0, zI s0] 137 h) : Wp mX10_countStill (kR fr M1 M2) Q (b1, b2) 86 [zR 55, zI l1, zR 51, zR l3, zI l4, x5, zI l6, zI l7, zI l8] [zI s0] 137 h := by
  refine s_fgt (fgt_c (fgt_c (fgt_c (fgt_c (fgt_c (fgt_n _ (fgt_c (fgt_c (fgt_c fgt_0))))))))) ?_
  refine s_iconst dX10_countStill_86 ?_
  exact kk
theorem bX10_countStill_87 {fr M1 M2 b1 b2 : Nat} {Q : RS → Nat → AH → Prop} {h : AH} {l1 l3 l4 l6 l7 l8 s1 s0 : Int} {x5 : AV}   (kk : Wp mX10_countStill (kR fr M1 M2) Q (b1, b2) 90 [zR 55, zI l1, zR 51, zR l3, zI l4, zI (s1 + s0), zI l6, zI l7, zI l8] [] 137 h) : Wp mX10_countStill (kR fr M1 M2) Q (b1, b2) 87 [zR 55, zI l1, zR 51, zR l3, zI l4, x5, zI l6, zI l7, zI l8] [zI s0, zI s1] 137 h := by
  refine s_fgt (fgt_c (fgt_c (fgt_c (fgt_c (fgt_c (fgt_n _ (fgt_c (fgt_c (fgt_c fgt_0))))))))) ?_
  refine s_iadd dX10_countStill_87 ?_
  refine s_istore dX10_countStill_88 rfl (by decide) ?_
  exact kk
theorem bX10_countStill_90 {fr M1 M2 b1 b2 : Nat} {Q : RS → Nat → AH → Prop} {h : AH} {l1 l3 l4 l5 l6 l7 l8 : Int}   (kk : Wp mX10_countStill (kR fr M1 M2) Q (b1, b2) 24 [zR 55, zI l1, zR 51, zR l3, zI l4, zI l5, zI l6, zI l7, zI (l8 + 1)] [] 137 h) : Wp mX10_countStill (kR fr M1 M2) Q (b1, b2) 90 [zR 55, zI l1, zR 51, zR l3, zI l4, zI l5, zI l6, zI l7, zI l8] [] 137 h := by
  refine s_iinc (x := l8) dX10_countStill_90 rfl rfl (by decide) ?_
  exact s_goto (tgt := 24) dX10_countStill_93 (by decide) kk
theorem bX10_countStill_96 {fr M1 M2 b1 b2 : Nat} {Q : RS → Nat → AH → Prop} {h : AH} {l1 l3 l4 l5 l6 l7 : Int} {x8 : AV}  (r1 : 0 ≤ l7 ∧ l7 < 6 := by omega) (kk : Wp mX10_countStill (kR fr M1 M2) Q (b1, b2) 9 [zR 55, zI l1, zR 51, zR l3, zI l4, zI l5, zI (l6 + (h 73 l7)), zI (l7 + 1), none] [] 137 h) : Wp mX10_countStill (kR fr M1 M2) Q (b1, b2) 96 [zR 55, zI l1, zR 51, zR l3, zI l4, zI l5, zI l6, zI l7, x8] [] 137 h := by
  refine s_fgt (fgt_c (fgt_c (fgt_c (fgt_c (fgt_c (fgt_c (fgt_c (fgt_c (fgt_n _ fgt_0))))))))) ?_
  refine s_iload (x := l6) dX10_countStill_96 rfl ?_
  refine s_aload_n (x := 55) dX10_countStill_98 rfl ?_
  refine s_getFd (c := 55) (d := 73) dX10_countStill_99 lX10_25 e55 (Or.inl rfl) (by decide) (by decide) ?_
  refine s_iload (x := l7) dX10_countStill_102 rfl ?_
  refine s_iald (c := 73) (i := l7) dX10_countStill_104 e73 r1.1 r1.2 ?_
  refine s_iadd dX10_countStill_105 ?_
  refine s_istore dX10_countStill_106 rfl (by decide) ?_
  refine s_iinc (x := l7) dX10_countStill_108 rfl rfl (by decide) ?_
  exact s_goto (tgt := 9) dX10_countStill_111 (by decide) kk
theorem bX10_countStill_114 {fr M1 M2 b1 b2 : Nat} {Q : RS → Nat → AH → Prop} {h : AH} {l5 : Int} {x0 x1 x2 x3 x4 x6 x7 x8 : AV}   (hq : Q (.inl (some (zI l5))) 137 h) : Wp mX10_countStill (kR fr M1 M2) Q (b1, b2) 114 [x0, x1, x2, x3, x4, zI l5, x6, x7, x8] [] 137 h := by
  refine s_fgt (fgt_n _ (fgt_n _ (fgt_n _ (fgt_n _ (fgt_n _ (fgt_c (fgt_n _ (fgt_n _ (fgt_n _ fgt_0))))))))) ?_
  refine s_iload (x := l5) dX10_countStill_114 rfl ?_
  exact s_ireturn dX10_countStill_116 ⟨.int, rfl, rfl⟩ hq (fun z => by cases z)
theorem dX10_thickestFog_0 : decode mX10_thickestFog.cd 0 = .ok (.iload_n 1, 1) := by decide +kernel
theorem dX10_thickestFog_1 : decode mX10_thickestFog.cd 1 = .ok (.bipush 6, 2) := by decide +kernel
theorem dX10_thickestFog_3 : decode mX10_thickestFog.cd 3 = .ok (.imul, 1) := by decide +kernel
theorem dX10_thickestFog_4 : decode mX10_thickestFog.cd 4 = .ok (.istore 4, 2) := by decide +kernel
theorem dX10_thickestFog_6 : decode mX10_thickestFog.cd 6 = .ok (.aload_n 0, 1) := by decide +kernel
theorem dX10_thickestFog_7 : decode mX10_thickestFog.cd 7 = .ok (.getfield 28, 3) := by decide +kernel
theorem dX10_thickestFog_10 : decode mX10_thickestFog.cd 10 = .ok (.iload 4, 2) := by decide +kernel
theorem dX10_thickestFog_12 : decode mX10_thickestFog.cd 12 = .ok (.iconst 0, 1) := by decide +kernel
theorem dX10_thickestFog_13 : decode mX10_thickestFog.cd 13 = .ok (.iadd, 1) := by decide +kernel
theorem dX10_thickestFog_14 : decode mX10_thickestFog.cd 14 = .ok (.iaload, 1) := by decide +kernel
theorem dX10_thickestFog_15 : decode mX10_thickestFog.cd 15 = .ok (.ifCond .ne 5, 3) := by decide +kernel
theorem dX10_thickestFog_18 : decode mX10_thickestFog.cd 18 = .ok (.iconst (-1), 1) := by decide +kernel
theorem dX10_thickestFog_19 : decode mX10_thickestFog.cd 19 = .ok (.ireturn, 1) := by decide +kernel
theorem dX10_thickestFog_20 : decode mX10_thickestFog.cd 20 = .ok (.aload_n 0, 1) := by decide +kernel
theorem dX10_thickestFog_21 : decode mX10_thickestFog.cd 21 = .ok (.getfield 28, 3) := by decide +kernel
theorem dX10_thickestFog_24 : decode mX10_thickestFog.cd 24 = .ok (.iload 4, 2) := by decide +kernel
theorem dX10_thickestFog_26 : decode mX10_thickestFog.cd 26 = .ok (.iconst 5, 1) := by decide +kernel
theorem dX10_thickestFog_27 : decode mX10_thickestFog.cd 27 = .ok (.iadd, 1) := by decide +kernel
theorem dX10_thickestFog_28 : decode mX10_thickestFog.cd 28 = .ok (.iaload, 1) := by decide +kernel
theorem dX10_thickestFog_29 : decode mX10_thickestFog.cd 29 = .ok (.bipush (-2), 2) := by decide +kernel
theorem dX10_thickestFog_31 : decode mX10_thickestFog.cd 31 = .ok (.if_icmp .ne 19, 3) := by decide +kernel
theorem dX10_thickestFog_34 : decode mX10_thickestFog.cd 34 = .ok (.aload_n 0, 1) := by decide +kernel
theorem dX10_thickestFog_35 : decode mX10_thickestFog.cd 35 = .ok (.getfield 28, 3) := by decide +kernel
theorem dX10_thickestFog_38 : decode mX10_thickestFog.cd 38 = .ok (.iload 4, 2) := by decide +kernel
theorem dX10_thickestFog_40 : decode mX10_thickestFog.cd 40 = .ok (.iconst 5, 1) := by decide +kernel
theorem dX10_thickestFog_41 : decode mX10_thickestFog.cd 41 = .ok (.iadd, 1) := by decide +kernel
theorem dX10_thickestFog_42 : decode mX10_thickestFog.cd 42 = .ok (.aload_n 0, 1) := by decide +kernel
theorem dX10_thickestFog_43 : decode mX10_thickestFog.cd 43 = .ok (.iload_n 1, 1) := by decide +kernel
theorem dX10_thickestFog_44 : decode mX10_thickestFog.cd 44 = .ok (.aload_n 2, 1) := by decide +kernel
theorem dX10_thickestFog_45 : decode mX10_thickestFog.cd 45 = .ok (.aload_n 3, 1) := by decide +kernel
theorem dX10_thickestFog_46 : decode mX10_thickestFog.cd 46 = .ok (.invokevirtual 163, 3) := by decide +kernel
theorem dX10_thickestFog_49 : decode mX10_thickestFog.cd 49 = .ok (.iastore, 1) := by decide +kernel
theorem dX10_thickestFog_50 : decode mX10_thickestFog.cd 50 = .ok (.aload_n 0, 1) := by decide +kernel
theorem dX10_thickestFog_51 : decode mX10_thickestFog.cd 51 = .ok (.getfield 28, 3) := by decide +kernel
theorem dX10_thickestFog_54 : decode mX10_thickestFog.cd 54 = .ok (.iload 4, 2) := by decide +kernel
theorem dX10_thickestFog_56 : decode mX10_thickestFog.cd 56 = .ok (.iconst 5, 1) := by decide +kernel
theorem dX10_thickestFog_57 : decode mX10_thickestFog.cd 57 = .ok (.iadd, 1) := by decide +kernel
theorem dX10_thickestFog_58 : decode mX10_thickestFog.cd 58 = .ok (.iaload, 1) := by decide +kernel
theorem dX10_thickestFog_59 : decode mX10_thickestFog.cd 59 = .ok (.ireturn, 1) := by decide +kernel
theorem bX10_thickestFog_0 {fr M1 M2 b1 b2 : Nat} {Q : RS → Nat → AH → Prop} {h : AH} {l1 l3 : Int} {x4 : AV}  (r1 : 0 ≤ (l1 * 6) + 0 ∧ (l1 * 6) + 0 < 144 := by omega) (r2 : -2147483648 ≤ h 74 ((l1 * 6) + 0) ∧ h 74 ((l1 * 6) + 0) < 2147483648 := by omega) (kt : ¬ h 74 ((l1 * 6) + 0) = 0 → Wp mX10_thickestFog (kR fr M1 M2) Q (b1, b2) 20 [zR 55, zI l1, zR 51, zR l3, zI (l1 * 6)] [] 137 h) (kf : h 74 ((l1 * 6) + 0) = 0 → Wp mX10_thickestFog (kR fr M1 M2) Q (b1, b2) 18 [zR 55, zI l1, zR 51, zR l3, zI (l1 * 6)] [] 137 h) : Wp mX10_thickestFog (kR fr M1 M2) Q (b1, b2) 0 [zR 55, zI l1, zR 51, zR l3, x4] [] 137 h := by
  refine s_fgt (fgt_c (fgt_c (fgt_c (fgt_c (fgt_n _ fgt_0))))) ?_
  refine s_iload_n (x := l1) dX10_thickestFog_0 rfl ?_
  refine s_bipush dX10_thickestFog_1 (by decide) ?_
  refine s_imul dX10_thickestFog_3 ?_
  refine s_istore dX10_thickestFog_4 rfl (by decide) ?_
  refine s_aload_n (x := 55) dX10_thickestFog_6 rfl ?_
  refine s_getFd (c := 55) (d := 74) dX10_thickestFog_7 lX10_28 e55 (Or.inl rfl) (by decide) (by decide) ?_
  refine s_iload (x := l1 * 6) dX10_thickestFog_10 rfl ?_
  refine s_iconst dX10_thickestFog_12 ?_
  refine s_iadd dX10_thickestFog_13 ?_
  refine s_iald (c := 74) (i := (l1 * 6) + 0) dX10_thickestFog_14 e74 r1.1 r1.2 ?_
  exact s_if_ne (tgt := 20) dX10_thickestFog_15 (by decide) r2 kt kf
theorem bX10_thickestFog_18 {fr M1 M2 b1 b2 : Nat} {Q : RS → Nat → AH → Prop} {h : AH} {x0 x1 x2 x3 x4 : AV}   (hq : Q (.inl (some (zI (-1)))) 137 h) : Wp mX10_thickestFog (kR fr M1 M2) Q (b1, b2) 18 [x0, x1, x2, x3, x4] [] 137 h := by
  refine s_fgt (fgt_n _ (fgt_n _ (fgt_n _ (fgt_n _ (fgt_n _ fgt_0))))) ?_
  refine s_iconst dX10_thickestFog_18 ?_
  exact s_ireturn dX10_thickestFog_19 ⟨.int, rfl, rfl⟩ hq (fun z => by cases z)
theorem bX10_thickestFog_20 {fr M1 M2 b1 b2 : Nat} {Q : RS → Nat → AH → Prop} {h : AH} {l1 l3 l4 : Int}  (r1 : 0 ≤ l4 + 5 ∧ l4 + 5 < 144 := by omega) (r2 : -2147483648 ≤ h 74 (l4 + 5) ∧ h 74 (l4 + 5) < 2147483648 := by omega) (kt : ¬ h 74 (l4 + 5) = (-2) → Wp mX10_thickestFog (kR fr M1 M2) Q (b1, b2) 50 [zR 55, zI l1, zR 51, zR l3, zI l4] [] 137 h) (kf : h 74 (l4 + 5) = (-2) → Wp mX10_thickestFog (kR fr M1 M2) Q (b1, b2) 34 [zR 55, zI l1, zR 51, zR l3, zI l4] [] 137 h) : Wp mX10_thickestFog (kR fr M1 M2) Q (b1, b2) 20 [zR 55, zI l1, zR 51, zR l3, zI l4] [] 137 h := by
  refine s_aload_n (x := 55) dX10_thickestFog_20 rfl ?_
  refine s_getFd (c := 55) (d := 74) dX10_thickestFog_21 lX10_28 e55 (Or.inl rfl) (by decide) (by decide) ?_
  refine s_iload (x := l4) dX10_thickestFog_24 rfl ?_
  refine s_iconst dX10_thickestFog_26 ?_
  refine s_iadd dX10_thickestFog_27 ?_
  refine s_iald (c := 74) (i := l4 + 5) dX10_thickestFog_28 e74 r1.1 r1.2 ?_
  refine s_bipush dX10_thickestFog_29 (by decide) ?_
  exact s_icmp_ne (tgt := 50) dX10_thickestFog_31 (by decide) r2 ⟨by decide, by decide⟩ kt kf
theorem bX10_thickestFog_34 {fr M1 M2 b1 b2 : Nat} {Q : RS → Nat → AH → Prop} {h : AH} {l1 l3 l4 : Int} {R : Int → AH → Prop}   (hS : Sp mX10_searchFog true (fr - 1) 0 0 [zR 55, zI l1, zR 51, zR l3] 137 h (rI R)) (hf : 1 ≤ fr := by omega) (kk : ∀ (x : Int) (h' : AH), R x h' → Wp mX10_thickestFog (kR fr M1 M2) Q (b1, b2) 49 [zR 55, zI l1, zR 51, zR l3, zI l4] [zI x, zI (l4 + 5), zR 74] 137 h') : Wp mX10_thickestFog (kR fr M1 M2) Q (b1, b2) 34 [zR 55, zI l1, zR 51, zR l3, zI l4] [] 137 h := by
  refine s_aload_n (x := 55) dX10_thickestFog_34 rfl ?_
  refine s_getFd (c := 55) (d := 74) dX10_thickestFog_35 lX10_28 e55 (Or.inl rfl) (by decide) (by decide) ?_
  refine s_iload (x := l4) dX10_thickestFog_38 rfl ?_
  refine s_iconst dX10_thickestFog_40 ?_
  refine s_iadd dX10_thickestFog_41 ?_
  refine s_aload_n (x := 55) dX10_thickestFog_42 rfl ?_
  refine s_iload_n (x := l1) dX10_thickestFog_43 rfl ?_
  refine s_aload_n (x := 51) dX10_thickestFog_44 rfl ?_
  refine s_aload_n (x := l3) dX10_thickestFog_45 rfl ?_
  exact s_callV (as := [zI l1, zR 51, zR l3]) (st := [zI (l4 + 5), zR 74]) (o := 55) dX10_thickestFog_46 kX10_163 rfl ⟨10, 16, TX10, e55, rfl, by decide⟩ rfl rfl (Nat.le_of_ble_eq_true rfl) hS (show fr - 1 + 1 ≤ fr by omega) (Nat.zero_le _) (Nat.zero_le _) (fun v n' h' hP _ => by obtain ⟨x, e, rfl, hR⟩ := hP; cases e; exact kk x h' hR) (fun E n' h' _ z => (rI_nt _ _ _ z).elim)
theorem bX10_thickestFog_49 {fr M1 M2 b1 b2 : Nat} {Q : RS → Nat → AH → Prop} {h : AH} {l4 s2 s1 s0 : Int} {N1 : Nat} {x1 x2 x3 : AV} (c1 : cel 137 s2 (100, N1) := by first | assumption | omega) (r1 : 0 ≤ s1 ∧ s1 < N1 := by omega) (kk : Wp mX10_thickestFog (kR fr M1 M2) Q (b1, b2) 50 [zR 55, none, none, none, zI l4] [] 137 (up h s2 s1 s0)) : Wp mX10_thickestFog (kR fr M1 M2) Q (b1, b2) 49 [zR 55, x1, x2, x3, zI l4] [zI s0, zI s1, zR s2] 137 h := by
  refine s_fgt (fgt_c (fgt_n _ (fgt_n _ (fgt_n _ (fgt_c fgt_0))))) ?_
  refine s_iast (c := s2) (i := s1) dX10_thickestFog_49 c1 r1.1 r1.2 ?_
  exact kk
theorem bX10_thickestFog_50 {fr M1 M2 b1 b2 : Nat} {Q : RS → Nat → AH → Prop} {h : AH} {l4 : Int} {x1 x2 x3 : AV}  (r1 : 0 ≤ l4 + 5 ∧ l4 + 5 < 144 := by omega) (hq : Q (.inl (some (zI (h 74 (l4 + 5))))) 137 h) : Wp mX10_thickestFog (kR fr M1 M2) Q (b1, b2) 50 [zR 55, x1, x2, x3, zI l4] [] 137 h := by
  refine s_fgt (fgt_c (fgt_n _ (fgt_n _ (fgt_n _ (fgt_c fgt_0))))) ?_
  refine s_aload_n (x := 55) dX10_thickestFog_50 rfl ?_
  refine s_getFd (c := 55) (d := 74) dX10_thickestFog_51 lX10_28 e55 (Or.inl rfl) (by decide) (by decide) ?_
  refine s_iload (x := l4) dX10_thickestFog_54 rfl ?_
  refine s_iconst dX10_thickestFog_56 ?_
  refine s_iadd dX10_thickestFog_57 ?_
  refine s_iald (c := 74) (i := l4 + 5) dX10_thickestFog_58 e74 r1.1 r1.2 ?_
  exact s_ireturn dX10_thickestFog_59 ⟨.int, rfl, rfl⟩ hq (fun z => by cases z)
theorem dX10_searchFog_0 : decode mX10_searchFog.cd 0 = .ok (.bipush 99, 2) := by decide +kernel
theorem dX10_searchFog_2 : decode mX10_searchFog.cd 2 = .ok (.istore 4, 2) := by decide +kernel
theorem dX10_searchFog_4 : decode mX10_searchFog.cd 4 = .ok (.iload 4, 2) := by decide +kernel
theorem dX10_searchFog_6 : decode mX10_searchFog.cd 6 = .ok (.ifCond .le 67, 3) := by decide +kernel
theorem dX10_searchFog_9 : decode mX10_searchFog.cd 9 = .ok (.aload_n 0, 1) := by decide +kernel
theorem dX10_searchFog_10 : decode mX10_searchFog.cd 10 = .ok (.iload 4, 2) := by decide +kernel
theorem dX10_searchFog_12 : decode mX10_searchFog.cd 12 = .ok (.invokevirtual 167, 3) := by decide +kernel
theorem dX10_searchFog_15 : decode mX10_searchFog.cd 15 = .ok (.ifCond .eq 52, 3) := by decide +kernel
theorem dX10_searchFog_18 : decode mX10_searchFog.cd 18 = .ok (.aload_n 3, 1) := by decide +kernel
theorem dX10_searchFog_19 : decode mX10_searchFog.cd 19 = .ok (.aload_n 0, 1) := by decide +kernel
theorem dX10_searchFog_20 : decode mX10_searchFog.cd 20 = .ok (.getfield 14, 3) := by decide +kernel
theorem dX10_searchFog_23 : decode mX10_searchFog.cd 23 = .ok (.iconst 0, 1) := by decide +kernel
theorem dX10_searchFog_24 : decode mX10_searchFog.cd 24 = .ok (.aload_n 0, 1) := by decide +kernel
theorem dX10_searchFog_25 : decode mX10_searchFog.cd 25 = .ok (.getfield 14, 3) := by decide +kernel
theorem dX10_searchFog_28 : decode mX10_searchFog.cd 28 = .ok (.getfield 129, 3) := by decide +kernel
theorem dX10_searchFog_31 : decode mX10_searchFog.cd 31 = .ok (.iload_n 1, 1) := by decide +kernel
theorem dX10_searchFog_32 : decode mX10_searchFog.cd 32 = .ok (.iaload, 1) := by decide +kernel
theorem dX10_searchFog_33 : decode mX10_searchFog.cd 33 = .ok (.iload 4, 2) := by decide +kernel
theorem dX10_searchFog_35 : decode mX10_searchFog.cd 35 = .ok (.iconst (-1), 1) := by decide +kernel
theorem dX10_searchFog_36 : decode mX10_searchFog.cd 36 = .ok (.invokevirtual 132, 3) := by decide +kernel
theorem dX10_searchFog_39 : decode mX10_searchFog.cd 39 = .ok (.aload_n 3, 1) := by decide +kernel
theorem dX10_searchFog_40 : decode mX10_searchFog.cd 40 = .ok (.aload_n 0, 1) := by decide +kernel
theorem dX10_searchFog_41 : decode mX10_searchFog.cd 41 = .ok (.getfield 14, 3) := by decide +kernel
theorem dX10_searchFog_44 : decode mX10_searchFog.cd 44 = .ok (.getfield 170, 3) := by decide +kernel
theorem dX10_searchFog_47 : decode mX10_searchFog.cd 47 = .ok (.invokevirtual 173, 3) := by decide +kernel
theorem dX10_searchFog_50 : decode mX10_searchFog.cd 50 = .ok (.ifCond .eq 17, 3) := by decide +kernel
theorem dX10_searchFog_53 : decode mX10_searchFog.cd 53 = .ok (.aload_n 0, 1) := by decide +kernel
theorem dX10_searchFog_54 : decode mX10_searchFog.cd 54 = .ok (.iload_n 1, 1) := by decide +kernel
theorem dX10_searchFog_55 : decode mX10_searchFog.cd 55 = .ok (.aload_n 2, 1) := by decide +kernel
theorem dX10_searchFog_56 : decode mX10_searchFog.cd 56 = .ok (.aload_n 3, 1) := by decide +kernel
theorem dX10_searchFog_57 : decode mX10_searchFog.cd 57 = .ok (.iconst 1, 1) := by decide +kernel
theorem dX10_searchFog_58 : decode mX10_searchFog.cd 58 = .ok (.invokevirtual 176, 3) := by decide +kernel
theorem dX10_searchFog_61 : decode mX10_searchFog.cd 61 = .ok (.ifCond .le 6, 3) := by decide +kernel
theorem dX10_searchFog_64 : decode mX10_searchFog.cd 64 = .ok (.iload 4, 2) := by decide +kernel
theorem dX10_searchFog_66 : decode mX10_searchFog.cd 66 = .ok (.ireturn, 1) := by decide +kernel
theorem dX10_searchFog_67 : decode mX10_searchFog.cd 67 = .ok (.iinc 4 (-1), 3) := by decide +kernel
theorem dX10_searchFog_70 : decode mX10_searchFog.cd 70 = .ok (.goto (-66), 3) := by decide +kernel
theorem dX10_searchFog_73 : decode mX10_searchFog.cd 73 = .ok (.iconst 0, 1) := by decide +kernel
theorem dX10_searchFog_74 : decode mX10_searchFog.cd 74 = .ok (.ireturn, 1) := by decide +kernel
theorem bX10_searchFog_0 {fr M1 M2 b1 b2 : Nat} {Q : RS → Nat → AH → Prop} {h : AH} {l1 l3 : Int} {x4 : AV}   (kk : Wp mX10_searchFog (kR fr M1 M2) Q (b1, b2) 4 [zR 55, zI l1, zR 51, zR l3, zI 99] [] 137 h) : Wp mX10_searchFog (kR fr M1 M2) Q (b1, b2) 0 [zR 55, zI l1, zR 51, zR l3, x4] [] 137 h := by
  refine s_fgt (fgt_c (fgt_c (fgt_c (fgt_c (fgt_n _ fgt_0))))) ?_
  refine s_bipush dX10_searchFog_0 (by decide) ?_
  refine s_istore dX10_searchFog_2 rfl (by decide) ?_
  exact kk
theorem bX10_searchFog_4 {fr M1 M2 b1 b2 : Nat} {Q : RS → Nat → AH → Prop} {h : AH} {l1 l3 l4 : Int}  (r1 : -2147483648 ≤ l4 ∧ l4 < 2147483648 := by omega) (kt : l4 ≤ 0 → Wp mX10_searchFog (kR fr M1 M2) Q (b1, b2) 73 [zR 55, zI l1, zR 51, zR l3, zI l4] [] 137 h) (kf : 0 < l4 → Wp mX10_searchFog (kR fr M1 M2) Q (b1, b2) 9 [zR 55, zI l1, zR 51, zR l3, zI l4] [] 137 h) : Wp mX10_searchFog (kR fr M1 M2) Q (b1, b2) 4 [zR 55, zI l1, zR 51, zR l3, zI l4] [] 137 h := by
  refine s_iload (x := l4) dX10_searchFog_4 rfl ?_
  exact s_if_le (tgt := 73) dX10_searchFog_6 (by decide) r1 kt kf
theorem bX10_searchFog_9 {fr M1 M2 b1 b2 : Nat} {Q : RS → Nat → AH → Prop} {h : AH} {l1 l3 l4 : Int} {R : Int → AH → Prop}   (hS : Sp mX10_changesShares true (fr - 1) 0 0 [zR 55, zI l4] 137 h (rI R)) (hf : 1 ≤ fr := by omega) (kk : ∀ (x : Int) (h' : AH), R x h' → Wp mX10_searchFog (kR fr M1 M2) Q (b1, b2) 15 [zR 55, zI l1, zR 51, zR l3, zI l4] [zI x] 137 h') : Wp mX10_searchFog (kR fr M1 M2) Q (b1, b2) 9 [zR 55, zI l1, zR 51, zR l3, zI l4] [] 137 h := by
  refine s_aload_n (x := 55) dX10_searchFog_9 rfl ?_
  refine s_iload (x := l4) dX10_searchFog_10 rfl ?_
  exact s_callV (as := [zI l4]) (st := []) (o := 55) dX10_searchFog_12 kX10_167 rfl ⟨10, 16, TX10, e55, rfl, by decide⟩ rfl rfl (Nat.le_of_ble_eq_true rfl) hS (show fr - 1 + 1 ≤ fr by omega) (Nat.zero_le _) (Nat.zero_le _) (fun v n' h' hP _ => by obtain ⟨x, e, rfl, hR⟩ := hP; cases e; exact kk x h' hR) (fun E n' h' _ z => (rI_nt _ _ _ z).elim)
theorem bX10_searchFog_15 {fr M1 M2 b1 b2 : Nat} {Q : RS → Nat → AH → Prop} {h : AH} {l1 l3 l4 s0 : Int}  (r1 : -2147483648 ≤ s0 ∧ s0 < 2147483648 := by omega) (kt : s0 = 0 → Wp mX10_searchFog (kR fr M1 M2) Q (b1, b2) 67 [zR 55, zI l1, zR 51, zR l3, zI l4] [] 137 h) (kf : ¬ s0 = 0 → Wp mX10_searchFog (kR fr M1 M2) Q (b1, b2) 18 [zR 55, zI l1, zR 51, zR l3, zI l4] [] 137 h) : Wp mX10_searchFog (kR fr M1 M2) Q (b1, b2) 15 [zR 55, zI l1, zR 51, zR l3, zI l4] [zI s0] 137 h := by
  exact s_if_eq (tgt := 67) dX10_searchFog_15 (by decide) r1 kt kf
theorem bX10_searchFog_18 {fr M1 M2 b1 b2 : Nat} {Q : RS → Nat → AH → Prop} {h : AH} {l1 l3 l4 : Int} {R : AH → Prop} (c1 : cel 137 (h 55 0) (2, 21) := by first | assumption | omega) (c2 : cel 137 l3 (7, 9) := by first | assumption | omega) (r1 : 0 ≤ l1 ∧ l1 < 24 := by omega) (hS : Sp mX7_build true (fr - 1) 0 0 [zR l3, zR (h 55 0), zI 0, zI (h ((h 55 0) + 9) l1), zI l4, zI (-1)] 137 h (rV R)) (hf : 1 ≤ fr := by omega) (kk : ∀ h' : AH, R h' → Wp mX10_searchFog (kR fr M1 M2) Q (b1, b2) 39 [zR 55, zI l1, zR 51, zR l3, zI l4] [] 137 h') : Wp mX10_searchFog (kR fr M1 M2) Q (b1, b2) 18 [zR 55, zI l1, zR 51, zR l3, zI l4] [] 137 h := by
  refine s_aload_n (x := l3) dX10_searchFog_18 rfl ?_
  refine s_aload_n (x := 55) dX10_searchFog_19 rfl ?_
  refine s_getR (c := 55) dX10_searchFog_20 lX10_14 e55 rfl ?_
  refine s_iconst dX10_searchFog_23 ?_
  refine s_aload_n (x := 55) dX10_searchFog_24 rfl ?_
  refine s_getR (c := 55) dX10_searchFog_25 lX10_14 e55 rfl ?_
  refine s_getFd (c := h 55 0) (d := (h 55 0) + 9) dX10_searchFog_28 lX10_129 c1 (Or.inl rfl) rfl (ne0 (fin_X2_15 c1)) ?_
  refine s_iload_n (x := l1) dX10_searchFog_31 rfl ?_
  refine s_iald (c := (h 55 0) + 9) (i := l1) dX10_searchFog_32 (fin_X2_15 c1) r1.1 r1.2 ?_
  refine s_iload (x := l4) dX10_searchFog_33 rfl ?_
  refine s_iconst dX10_searchFog_35 ?_
  exact s_callV (as := [zR (h 55 0), zI 0, zI (h ((h 55 0) + 9) l1), zI l4, zI (-1)]) (st := []) (o := l3) dX10_searchFog_36 kX10_132 rfl ⟨7, 9, TX7, c2, rfl, by decide⟩ rfl rfl (Nat.le_of_ble_eq_true rfl) hS (show fr - 1 + 1 ≤ fr by omega) (Nat.zero_le _) (Nat.zero_le _) (fun v n' h' hP _ => by obtain ⟨e, rfl, hR⟩ := hP; cases e; exact kk h' hR) (fun E n' h' _ z => (rV_nt _ _ _ z).elim)
theorem bX10_searchFog_39 {fr M1 M2 b1 b2 : Nat} {Q : RS → Nat → AH → Prop} {h : AH} {l1 l3 l4 : Int} {R : Int → AH → Prop} (c1 : cel 137 (h 55 0) (2, 21) := by first | assumption | omega) (c2 : cel 137 l3 (7, 9) := by first | assumption | omega)  (hS : Sp mX7_canReach true (fr - 1) 0 0 [zR l3, zI (h (h 55 0) 4)] 137 h (rI R)) (hf : 1 ≤ fr := by omega) (kk : ∀ (x : Int) (h' : AH), R x h' → Wp mX10_searchFog (kR fr M1 M2) Q (b1, b2) 50 [zR 55, zI l1, zR 51, zR l3, zI l4] [zI x] 137 h') : Wp mX10_searchFog (kR fr M1 M2) Q (b1, b2) 39 [zR 55, zI l1, zR 51, zR l3, zI l4] [] 137 h := by
  refine s_aload_n (x := l3) dX10_searchFog_39 rfl ?_
  refine s_aload_n (x := 55) dX10_searchFog_40 rfl ?_
  refine s_getR (c := 55) dX10_searchFog_41 lX10_14 e55 rfl ?_
  refine s_get (c := h 55 0) dX10_searchFog_44 lX10_170 c1 (by decide) ?_
  exact s_callV (as := [zI (h (h 55 0) 4)]) (st := []) (o := l3) dX10_searchFog_47 kX10_173 rfl ⟨7, 9, TX7, c2, rfl, by decide⟩ rfl rfl (Nat.le_of_ble_eq_true rfl) hS (show fr - 1 + 1 ≤ fr by omega) (Nat.zero_le _) (Nat.zero_le _) (fun v n' h' hP _ => by obtain ⟨x, e, rfl, hR⟩ := hP; cases e; exact kk x h' hR) (fun E n' h' _ z => (rI_nt _ _ _ z).elim)
theorem bX10_searchFog_50 {fr M1 M2 b1 b2 : Nat} {Q : RS → Nat → AH → Prop} {h : AH} {l1 l3 l4 s0 : Int}  (r1 : -2147483648 ≤ s0 ∧ s0 < 2147483648 := by omega) (kt : s0 = 0 → Wp mX10_searchFog (kR fr M1 M2) Q (b1, b2) 67 [zR 55, zI l1, zR 51, zR l3, zI l4] [] 137 h) (kf : ¬ s0 = 0 → Wp mX10_searchFog (kR fr M1 M2) Q (b1, b2) 53 [zR 55, zI l1, zR 51, zR l3, zI l4] [] 137 h) : Wp mX10_searchFog (kR fr M1 M2) Q (b1, b2) 50 [zR 55, zI l1, zR 51, zR l3, zI l4] [zI s0] 137 h := by
  exact s_if_eq (tgt := 67) dX10_searchFog_50 (by decide) r1 kt kf
theorem bX10_searchFog_53 {fr M1 M2 b1 b2 : Nat} {Q : RS → Nat → AH → Prop} {h : AH} {l1 l3 l4 : Int} {R : Int → AH → Prop}   (hS : Sp mX10_countStill true (fr - 1) 0 0 [zR 55, zI l1, zR 51, zR l3, zI 1] 137 h (rI R)) (hf : 1 ≤ fr := by omega) (kk : ∀ (x : Int) (h' : AH), R x h' → Wp mX10_searchFog (kR fr M1 M2) Q (b1, b2) 61 [zR 55, zI l1, zR 51, zR l3, zI l4] [zI x] 137 h') : Wp mX10_searchFog (kR fr M1 M2) Q (b1, b2) 53 [zR 55, zI l1, zR 51, zR l3, zI l4] [] 137 h := by
  refine s_aload_n (x := 55) dX10_searchFog_53 rfl ?_
  refine s_iload_n (x := l1) dX10_searchFog_54 rfl ?_
  refine s_aload_n (x := 51) dX10_searchFog_55 rfl ?_
  refine s_aload_n (x := l3) dX10_searchFog_56 rfl ?_
  refine s_iconst dX10_searchFog_57 ?_
  exact s_callV (as := [zI l1, zR 51, zR l3, zI 1]) (st := []) (o := 55) dX10_searchFog_58 kX10_176 rfl ⟨10, 16, TX10, e55, rfl, by decide⟩ rfl rfl (Nat.le_of_ble_eq_true rfl) hS (show fr - 1 + 1 ≤ fr by omega) (Nat.zero_le _) (Nat.zero_le _) (fun v n' h' hP _ => by obtain ⟨x, e, rfl, hR⟩ := hP; cases e; exact kk x h' hR) (fun E n' h' _ z => (rI_nt _ _ _ z).elim)
theorem bX10_searchFog_61 {fr M1 M2 b1 b2 : Nat} {Q : RS → Nat → AH → Prop} {h : AH} {l1 l3 l4 s0 : Int}  (r1 : -2147483648 ≤ s0 ∧ s0 < 2147483648 := by omega) (kt : s0 ≤ 0 → Wp mX10_searchFog (kR fr M1 M2) Q (b1, b2) 67 [zR 55, zI l1, zR 51, zR l3, zI l4] [] 137 h) (kf : 0 < s0 → Wp mX10_searchFog (kR fr M1 M2) Q (b1, b2) 64 [zR 55, zI l1, zR 51, zR l3, zI l4] [] 137 h) : Wp mX10_searchFog (kR fr M1 M2) Q (b1, b2) 61 [zR 55, zI l1, zR 51, zR l3, zI l4] [zI s0] 137 h := by
  exact s_if_le (tgt := 67) dX10_searchFog_61 (by decide) r1 kt kf
theorem bX10_searchFog_64 {fr M1 M2 b1 b2 : Nat} {Q : RS → Nat → AH → Prop} {h : AH} {l4 : Int} {x0 x1 x2 x3 : AV}   (hq : Q (.inl (some (zI l4))) 137 h) : Wp mX10_searchFog (kR fr M1 M2) Q (b1, b2) 64 [x0, x1, x2, x3, zI l4] [] 137 h := by
  refine s_fgt (fgt_n _ (fgt_n _ (fgt_n _ (fgt_n _ (fgt_c fgt_0))))) ?_
  refine s_iload (x := l4) dX10_searchFog_64 rfl ?_
  exact s_ireturn dX10_searchFog_66 ⟨.int, rfl, rfl⟩ hq (fun z => by cases z)
theorem bX10_searchFog_67 {fr M1 M2 b1 b2 : Nat} {Q : RS → Nat → AH → Prop} {h : AH} {l1 l3 l4 : Int}   (kk : Wp mX10_searchFog (kR fr M1 M2) Q (b1, b2) 4 [zR 55, zI l1, zR 51, zR l3, zI (l4 + (-1))] [] 137 h) : Wp mX10_searchFog (kR fr M1 M2) Q (b1, b2) 67 [zR 55, zI l1, zR 51, zR l3, zI l4] [] 137 h := by
  refine s_iinc (x := l4) dX10_searchFog_67 rfl rfl (by decide) ?_
  exact s_goto (tgt := 4) dX10_searchFog_70 (by decide) kk
theorem bX10_searchFog_73 {fr M1 M2 b1 b2 : Nat} {Q : RS → Nat → AH → Prop} {h : AH} {x0 x1 x2 x3 x4 : AV}   (hq : Q (.inl (some (zI 0))) 137 h) : Wp mX10_searchFog (kR fr M1 M2) Q (b1, b2) 73 [x0, x1, x2, x3, x4] [] 137 h := by
  refine s_fgt (fgt_n _ (fgt_n _ (fgt_n _ (fgt_n _ (fgt_n _ fgt_0))))) ?_
  refine s_iconst dX10_searchFog_73 ?_
  exact s_ireturn dX10_searchFog_74 ⟨.int, rfl, rfl⟩ hq (fun z => by cases z)
theorem dX10_changesShares_0 : decode mX10_changesShares.cd 0 = .ok (.iconst 0, 1) := by decide +kernel
theorem dX10_changesShares_1 : decode mX10_changesShares.cd 1 = .ok (.istore_n 2, 1) := by decide +kernel
theorem dX10_changesShares_2 : decode mX10_changesShares.cd 2 = .ok (.iload_n 2, 1) := by decide +kernel
theorem dX10_changesShares_3 : decode mX10_changesShares.cd 3 = .ok (.aload_n 0, 1) := by decide +kernel
theorem dX10_changesShares_4 : decode mX10_changesShares.cd 4 = .ok (.getfield 14, 3) := by decide +kernel
theorem dX10_changesShares_7 : decode mX10_changesShares.cd 7 = .ok (.getfield 180, 3) := by decide +kernel
theorem dX10_changesShares_10 : decode mX10_changesShares.cd 10 = .ok (.if_icmp .ge 34, 3) := by decide +kernel
theorem dX10_changesShares_13 : decode mX10_changesShares.cd 13 = .ok (.aload_n 0, 1) := by decide +kernel
theorem dX10_changesShares_14 : decode mX10_changesShares.cd 14 = .ok (.getfield 14, 3) := by decide +kernel
theorem dX10_changesShares_17 : decode mX10_changesShares.cd 17 = .ok (.iload_n 2, 1) := by decide +kernel
theorem dX10_changesShares_18 : decode mX10_changesShares.cd 18 = .ok (.iload_n 1, 1) := by decide +kernel
theorem dX10_changesShares_19 : decode mX10_changesShares.cd 19 = .ok (.invokevirtual 183, 3) := by decide +kernel
theorem dX10_changesShares_22 : decode mX10_changesShares.cd 22 = .ok (.aload_n 0, 1) := by decide +kernel
theorem dX10_changesShares_23 : decode mX10_changesShares.cd 23 = .ok (.getfield 14, 3) := by decide +kernel
theorem dX10_changesShares_26 : decode mX10_changesShares.cd 26 = .ok (.iload_n 2, 1) := by decide +kernel
theorem dX10_changesShares_27 : decode mX10_changesShares.cd 27 = .ok (.iload_n 1, 1) := by decide +kernel
theorem dX10_changesShares_28 : decode mX10_changesShares.cd 28 = .ok (.iconst 1, 1) := by decide +kernel
theorem dX10_changesShares_29 : decode mX10_changesShares.cd 29 = .ok (.iadd, 1) := by decide +kernel
theorem dX10_changesShares_30 : decode mX10_changesShares.cd 30 = .ok (.invokevirtual 183, 3) := by decide +kernel
theorem dX10_changesShares_33 : decode mX10_changesShares.cd 33 = .ok (.if_icmp .eq 5, 3) := by decide +kernel
theorem dX10_changesShares_36 : decode mX10_changesShares.cd 36 = .ok (.iconst 1, 1) := by decide +kernel
theorem dX10_changesShares_37 : decode mX10_changesShares.cd 37 = .ok (.ireturn, 1) := by decide +kernel
theorem dX10_changesShares_38 : decode mX10_changesShares.cd 38 = .ok (.iinc 2 1, 3) := by decide +kernel
theorem dX10_changesShares_41 : decode mX10_changesShares.cd 41 = .ok (.goto (-39), 3) := by decide +kernel
theorem dX10_changesShares_44 : decode mX10_changesShares.cd 44 = .ok (.iconst 0, 1) := by decide +kernel
theorem dX10_changesShares_45 : decode mX10_changesShares.cd 45 = .ok (.ireturn, 1) := by decide +kernel
theorem bX10_changesShares_0 {fr M1 M2 b1 b2 : Nat} {Q : RS → Nat → AH → Prop} {h : AH} {l1 : Int} {x2 : AV}   (kk : Wp mX10_changesShares (kR fr M1 M2) Q (b1, b2) 2 [zR 55, zI l1, zI 0] [] 137 h) : Wp mX10_changesShares (kR fr M1 M2) Q (b1, b2) 0 [zR 55, zI l1, x2] [] 137 h := by
  refine s_fgt (fgt_c (fgt_c (fgt_n _ fgt_0))) ?_
  refine s_iconst dX10_changesShares_0 ?_
  refine s_istore_n dX10_changesShares_1 rfl (by decide) ?_
  exact kk
theorem bX10_changesShares_2 {fr M1 M2 b1 b2 : Nat} {Q : RS → Nat → AH → Prop} {h : AH} {l1 l2 : Int} (c1 : cel 137 (h 55 0) (2, 21) := by first | assumption | omega) (r1 : -2147483648 ≤ l2 ∧ l2 < 2147483648 := by omega) (r2 : -2147483648 ≤ h (h 55 0) 1 ∧ h (h 55 0) 1 < 2147483648 := by omega) (kt : h (h 55 0) 1 ≤ l2 → Wp mX10_changesShares (kR fr M1 M2) Q (b1, b2) 44 [zR 55, zI l1, zI l2] [] 137 h) (kf : l2 < h (h 55 0) 1 → Wp mX10_changesShares (kR fr M1 M2) Q (b1, b2) 13 [zR 55, zI l1, zI l2] [] 137 h) : Wp mX10_changesShares (kR fr M1 M2) Q (b1, b2) 2 [zR 55, zI l1, zI l2] [] 137 h := by
  refine s_iload_n (x := l2) dX10_changesShares_2 rfl ?_
  refine s_aload_n (x := 55) dX10_changesShares_3 rfl ?_
  refine s_getR (c := 55) dX10_changesShares_4 lX10_14 e55 rfl ?_
  refine s_get (c := h 55 0) dX10_changesShares_7 lX10_180 c1 (by decide) ?_
  exact s_icmp_ge (tgt := 44) dX10_changesShares_10 (by decide) r1 r2 kt kf
theorem bX10_changesShares_13 {fr M1 M2 b1 b2 : Nat} {Q : RS → Nat → AH → Prop} {h : AH} {l1 l2 : Int} {R : Int → AH → Prop} (c1 : cel 137 (h 55 0) (2, 21) := by first | assumption | omega)  (hS : Sp mX2_foggedShare true (fr - 1) 0 0 [zR (h 55 0), zI l2, zI l1] 137 h (rI R)) (hf : 1 ≤ fr := by omega) (kk : ∀ (x : Int) (h' : AH), R x h' → Wp mX10_changesShares (kR fr M1 M2) Q (b1, b2) 22 [zR 55, zI l1, zI l2] [zI x] 137 h') : Wp mX10_changesShares (kR fr M1 M2) Q (b1, b2) 13 [zR 55, zI l1, zI l2] [] 137 h := by
  refine s_aload_n (x := 55) dX10_changesShares_13 rfl ?_
  refine s_getR (c := 55) dX10_changesShares_14 lX10_14 e55 rfl ?_
  refine s_iload_n (x := l2) dX10_changesShares_17 rfl ?_
  refine s_iload_n (x := l1) dX10_changesShares_18 rfl ?_
  exact s_callV (as := [zI l2, zI l1]) (st := []) (o := h 55 0) dX10_changesShares_19 kX10_183 rfl ⟨2, 21, TX2, c1, rfl, by decide⟩ rfl rfl (Nat.le_of_ble_eq_true rfl) hS (show fr - 1 + 1 ≤ fr by omega) (Nat.zero_le _) (Nat.zero_le _) (fun v n' h' hP _ => by obtain ⟨x, e, rfl, hR⟩ := hP; cases e; exact kk x h' hR) (fun E n' h' _ z => (rI_nt _ _ _ z).elim)
theorem bX10_changesShares_22 {fr M1 M2 b1 b2 : Nat} {Q : RS → Nat → AH → Prop} {h : AH} {l1 l2 s0 : Int} {R : Int → AH → Prop} (c1 : cel 137 (h 55 0) (2, 21) := by first | assumption | omega)  (hS : Sp mX2_foggedShare true (fr - 1) 0 0 [zR (h 55 0), zI l2, zI (l1 + 1)] 137 h (rI R)) (hf : 1 ≤ fr := by omega) (kk : ∀ (x : Int) (h' : AH), R x h' → Wp mX10_changesShares (kR fr M1 M2) Q (b1, b2) 33 [zR 55, zI l1, zI l2] [zI x, zI s0] 137 h') : Wp mX10_changesShares (kR fr M1 M2) Q (b1, b2) 22 [zR 55, zI l1, zI l2] [zI s0] 137 h := by
  refine s_aload_n (x := 55) dX10_changesShares_22 rfl ?_
  refine s_getR (c := 55) dX10_changesShares_23 lX10_14 e55 rfl ?_
  refine s_iload_n (x := l2) dX10_changesShares_26 rfl ?_
  refine s_iload_n (x := l1) dX10_changesShares_27 rfl ?_
  refine s_iconst dX10_changesShares_28 ?_
  refine s_iadd dX10_changesShares_29 ?_
  exact s_callV (as := [zI l2, zI (l1 + 1)]) (st := [zI s0]) (o := h 55 0) dX10_changesShares_30 kX10_183 rfl ⟨2, 21, TX2, c1, rfl, by decide⟩ rfl rfl (Nat.le_of_ble_eq_true rfl) hS (show fr - 1 + 1 ≤ fr by omega) (Nat.zero_le _) (Nat.zero_le _) (fun v n' h' hP _ => by obtain ⟨x, e, rfl, hR⟩ := hP; cases e; exact kk x h' hR) (fun E n' h' _ z => (rI_nt _ _ _ z).elim)
theorem bX10_changesShares_33 {fr M1 M2 b1 b2 : Nat} {Q : RS → Nat → AH → Prop} {h : AH} {l1 l2 s1 s0 : Int}  (r1 : -2147483648 ≤ s1 ∧ s1 < 2147483648 := by omega) (r2 : -2147483648 ≤ s0 ∧ s0 < 2147483648 := by omega) (kt : s1 = s0 → Wp mX10_changesShares (kR fr M1 M2) Q (b1, b2) 38 [zR 55, zI l1, zI l2] [] 137 h) (kf : ¬ s1 = s0 → Wp mX10_changesShares (kR fr M1 M2) Q (b1, b2) 36 [zR 55, zI l1, zI l2] [] 137 h) : Wp mX10_changesShares (kR fr M1 M2) Q (b1, b2) 33 [zR 55, zI l1, zI l2] [zI s0, zI s1] 137 h := by
  exact s_icmp_eq (tgt := 38) dX10_changesShares_33 (by decide) r1 r2 kt kf
theorem bX10_changesShares_36 {fr M1 M2 b1 b2 : Nat} {Q : RS → Nat → AH → Prop} {h : AH} {x0 x1 x2 : AV}   (hq : Q (.inl (some (zI 1))) 137 h) : Wp mX10_changesShares (kR fr M1 M2) Q (b1, b2) 36 [x0, x1, x2] [] 137 h := by
  refine s_fgt (fgt_n _ (fgt_n _ (fgt_n _ fgt_0))) ?_
  refine s_iconst dX10_changesShares_36 ?_
  exact s_ireturn dX10_changesShares_37 ⟨.boolean, rfl, by decide⟩ hq (fun z => by cases z)
theorem bX10_changesShares_38 {fr M1 M2 b1 b2 : Nat} {Q : RS → Nat → AH → Prop} {h : AH} {l1 l2 : Int}   (kk : Wp mX10_changesShares (kR fr M1 M2) Q (b1, b2) 2 [zR 55, zI l1, zI (l2 + 1)] [] 137 h) : Wp mX10_changesShares (kR fr M1 M2) Q (b1, b2) 38 [zR 55, zI l1, zI l2] [] 137 h := by
  refine s_iinc (x := l2) dX10_changesShares_38 rfl rfl (by decide) ?_
  exact s_goto (tgt := 2) dX10_changesShares_41 (by decide) kk
theorem bX10_changesShares_44 {fr M1 M2 b1 b2 : Nat} {Q : RS → Nat → AH → Prop} {h : AH} {x0 x1 x2 : AV}   (hq : Q (.inl (some (zI 0))) 137 h) : Wp mX10_changesShares (kR fr M1 M2) Q (b1, b2) 44 [x0, x1, x2] [] 137 h := by
  refine s_fgt (fgt_n _ (fgt_n _ (fgt_n _ fgt_0))) ?_
  refine s_iconst dX10_changesShares_44 ?_
  exact s_ireturn dX10_changesShares_45 ⟨.boolean, rfl, by decide⟩ hq (fun z => by cases z)
