theorem dX6_read_0 : decode mX6_read.cd 0 = .ok (.aload_n 0, 1) := by decide +kernel
theorem dX6_read_1 : decode mX6_read.cd 1 = .ok (.aload_n 1, 1) := by decide +kernel
theorem dX6_read_2 : decode mX6_read.cd 2 = .ok (.putfield 9, 3) := by decide +kernel
theorem dX6_read_5 : decode mX6_read.cd 5 = .ok (.aload_n 0, 1) := by decide +kernel
theorem dX6_read_6 : decode mX6_read.cd 6 = .ok (.iload_n 2, 1) := by decide +kernel
theorem dX6_read_7 : decode mX6_read.cd 7 = .ok (.aload_n 1, 1) := by decide +kernel
theorem dX6_read_8 : decode mX6_read.cd 8 = .ok (.arraylength, 1) := by decide +kernel
theorem dX6_read_9 : decode mX6_read.cd 9 = .ok (.invokestatic 15, 3) := by decide +kernel
theorem dX6_read_12 : decode mX6_read.cd 12 = .ok (.putfield 21, 3) := by decide +kernel
theorem dX6_read_15 : decode mX6_read.cd 15 = .ok (.aload_n 0, 1) := by decide +kernel
theorem dX6_read_16 : decode mX6_read.cd 16 = .ok (.aload_n 3, 1) := by decide +kernel
theorem dX6_read_17 : decode mX6_read.cd 17 = .ok (.putfield 25, 3) := by decide +kernel
theorem dX6_read_20 : decode mX6_read.cd 20 = .ok (.aload_n 0, 1) := by decide +kernel
theorem dX6_read_21 : decode mX6_read.cd 21 = .ok (.getfield 25, 3) := by decide +kernel
theorem dX6_read_24 : decode mX6_read.cd 24 = .ok (.invokevirtual 29, 3) := by decide +kernel
theorem dX6_read_27 : decode mX6_read.cd 27 = .ok (.aload_n 0, 1) := by decide +kernel
theorem dX6_read_28 : decode mX6_read.cd 28 = .ok (.iconst 0, 1) := by decide +kernel
theorem dX6_read_29 : decode mX6_read.cd 29 = .ok (.putfield 34, 3) := by decide +kernel
theorem dX6_read_32 : decode mX6_read.cd 32 = .ok (.aload_n 0, 1) := by decide +kernel
theorem dX6_read_33 : decode mX6_read.cd 33 = .ok (.iconst 0, 1) := by decide +kernel
theorem dX6_read_34 : decode mX6_read.cd 34 = .ok (.putfield 37, 3) := by decide +kernel
theorem dX6_read_37 : decode mX6_read.cd 37 = .ok (.aload_n 0, 1) := by decide +kernel
theorem dX6_read_38 : decode mX6_read.cd 38 = .ok (.iconst 0, 1) := by decide +kernel
theorem dX6_read_39 : decode mX6_read.cd 39 = .ok (.putfield 40, 3) := by decide +kernel
theorem dX6_read_42 : decode mX6_read.cd 42 = .ok (.aload_n 0, 1) := by decide +kernel
theorem dX6_read_43 : decode mX6_read.cd 43 = .ok (.iconst 0, 1) := by decide +kernel
theorem dX6_read_44 : decode mX6_read.cd 44 = .ok (.putfield 44, 3) := by decide +kernel
theorem dX6_read_47 : decode mX6_read.cd 47 = .ok (.aload_n 0, 1) := by decide +kernel
theorem dX6_read_48 : decode mX6_read.cd 48 = .ok (.iconst 0, 1) := by decide +kernel
theorem dX6_read_49 : decode mX6_read.cd 49 = .ok (.putfield 47, 3) := by decide +kernel
theorem dX6_read_52 : decode mX6_read.cd 52 = .ok (.aload_n 0, 1) := by decide +kernel
theorem dX6_read_53 : decode mX6_read.cd 53 = .ok (.iconst (-1), 1) := by decide +kernel
theorem dX6_read_54 : decode mX6_read.cd 54 = .ok (.putfield 50, 3) := by decide +kernel
theorem dX6_read_57 : decode mX6_read.cd 57 = .ok (.aload_n 0, 1) := by decide +kernel
theorem dX6_read_58 : decode mX6_read.cd 58 = .ok (.invokevirtual 53, 3) := by decide +kernel
theorem dX6_read_61 : decode mX6_read.cd 61 = .ok (.iconst 1, 1) := by decide +kernel
theorem dX6_read_62 : decode mX6_read.cd 62 = .ok (.istore 4, 2) := by decide +kernel
theorem dX6_read_64 : decode mX6_read.cd 64 = .ok (.iconst 0, 1) := by decide +kernel
theorem dX6_read_65 : decode mX6_read.cd 65 = .ok (.istore 5, 2) := by decide +kernel
theorem dX6_read_67 : decode mX6_read.cd 67 = .ok (.iload 5, 2) := by decide +kernel
theorem dX6_read_69 : decode mX6_read.cd 69 = .ok (.sipush 700, 3) := by decide +kernel
theorem dX6_read_72 : decode mX6_read.cd 72 = .ok (.if_icmp .ge 27, 3) := by decide +kernel
theorem dX6_read_75 : decode mX6_read.cd 75 = .ok (.iload 4, 2) := by decide +kernel
theorem dX6_read_77 : decode mX6_read.cd 77 = .ok (.ifCond .eq 22, 3) := by decide +kernel
theorem dX6_read_80 : decode mX6_read.cd 80 = .ok (.aload_n 0, 1) := by decide +kernel
theorem dX6_read_81 : decode mX6_read.cd 81 = .ok (.getfield 56, 3) := by decide +kernel
theorem dX6_read_84 : decode mX6_read.cd 84 = .ok (.ifCond .eq 15, 3) := by decide +kernel
theorem dX6_read_87 : decode mX6_read.cd 87 = .ok (.aload_n 0, 1) := by decide +kernel
theorem dX6_read_88 : decode mX6_read.cd 88 = .ok (.invokevirtual 59, 3) := by decide +kernel
theorem dX6_read_91 : decode mX6_read.cd 91 = .ok (.istore 4, 2) := by decide +kernel
theorem dX6_read_93 : decode mX6_read.cd 93 = .ok (.iinc 5 1, 3) := by decide +kernel
theorem dX6_read_96 : decode mX6_read.cd 96 = .ok (.goto (-29), 3) := by decide +kernel
theorem dX6_read_99 : decode mX6_read.cd 99 = .ok (.aload_n 0, 1) := by decide +kernel
theorem dX6_read_100 : decode mX6_read.cd 100 = .ok (.getfield 47, 3) := by decide +kernel
theorem dX6_read_103 : decode mX6_read.cd 103 = .ok (.ireturn, 1) := by decide +kernel
theorem bX6_read_0 {fr M1 M2 b1 b2 : Nat} {Q : RS → Nat → AH → Prop} {h : AH} {l1 l2 l3 : Int} {N1 : Nat} {x4 x5 : AV} {R : AH → Prop} (c1 : cel 137 l1 (101, N1) := by first | assumption | omega) (c2 : cel 137 l3 (2, 21) := by first | assumption | omega) (r1 : 1 ≤ fr := by omega) (r2 : -2147483648 ≤ l2 ∧ l2 < 2147483648 := by omega) (r3 : -2147483648 ≤ (N1 : Int) ∧ (N1 : Int) < 2147483648 := by omega) (hS : Sp mX2_clear true (fr - 1) 0 0 [zR l3] 137 (up (up (up h 46 0 l1) 46 1 (min l2 (N1 : Int))) 46 2 l3) (rV R)) (hf : 1 ≤ fr := by omega) (kk : ∀ h' : AH, R h' → Wp mX6_read (kR fr M1 M2) Q (b1, b2) 27 [zR 46, zR l1, zI l2, zR l3, none, none] [] 137 h') : Wp mX6_read (kR fr M1 M2) Q (b1, b2) 0 [zR 46, zR l1, zI l2, zR l3, x4, x5] [] 137 h := by
  refine s_fgt (fgt_c (fgt_c (fgt_c (fgt_c (fgt_n _ (fgt_n _ fgt_0)))))) ?_
  refine s_aload_n (x := 46) dX6_read_0 rfl ?_
  refine s_aload_n (x := l1) dX6_read_1 rfl ?_
  refine s_putR (c := 46) dX6_read_2 lX6_9 e46 ?_
  refine s_aload_n (x := 46) dX6_read_5 rfl ?_
  refine s_iload_n (x := l2) dX6_read_6 rfl ?_
  refine s_aload_n (x := l1) dX6_read_7 rfl ?_
  refine s_alen (c := l1) dX6_read_8 c1 (by decide) ?_
  refine s_mmin dX6_read_9 wd703 wd704 wd19 wd705 r1 (Nat.le_of_ble_eq_true rfl) r2 r3 ?_
  refine s_put (c := 46) dX6_read_12 lX6_21 e46 ?_
  refine s_aload_n (x := 46) dX6_read_15 rfl ?_
  refine s_aload_n (x := l3) dX6_read_16 rfl ?_
  refine s_putR (c := 46) dX6_read_17 lX6_25 e46 ?_
  refine s_aload_n (x := 46) dX6_read_20 rfl ?_
  refine s_getR (c := 46) dX6_read_21 lX6_25 e46 rfl ?_
  exact s_callV (as := []) (st := []) (o := l3) dX6_read_24 kX6_29 rfl ⟨2, 21, TX2, c2, rfl, by decide⟩ rfl rfl (Nat.le_of_ble_eq_true rfl) hS (show fr - 1 + 1 ≤ fr by omega) (Nat.zero_le _) (Nat.zero_le _) (fun v n' h' hP _ => by obtain ⟨e, rfl, hR⟩ := hP; cases e; exact kk h' hR) (fun E n' h' _ z => (rV_nt _ _ _ z).elim)
theorem bX6_read_27 {fr M1 M2 b1 b2 : Nat} {Q : RS → Nat → AH → Prop} {h : AH} {x1 x2 x3 x4 x5 : AV} {R : AH → Prop}   (hS : Sp mX6_step true (fr - 1) 0 0 [zR 46] 137 (up (up (up (up (up (up h 46 5 0) 46 7 0) 46 8 0) 46 9 0) 46 10 0) 46 11 (-1)) (rV R)) (hf : 1 ≤ fr := by omega) (kk : ∀ h' : AH, R h' → Wp mX6_read (kR fr M1 M2) Q (b1, b2) 61 [zR 46, none, none, none, none, none] [] 137 h') : Wp mX6_read (kR fr M1 M2) Q (b1, b2) 27 [zR 46, x1, x2, x3, x4, x5] [] 137 h := by
  refine s_fgt (fgt_c (fgt_n _ (fgt_n _ (fgt_n _ (fgt_n _ (fgt_n _ fgt_0)))))) ?_
  refine s_aload_n (x := 46) dX6_read_27 rfl ?_
  refine s_iconst dX6_read_28 ?_
  refine s_put (c := 46) dX6_read_29 lX6_34 e46 ?_
  refine s_aload_n (x := 46) dX6_read_32 rfl ?_
  refine s_iconst dX6_read_33 ?_
  refine s_put (c := 46) dX6_read_34 lX6_37 e46 ?_
  refine s_aload_n (x := 46) dX6_read_37 rfl ?_
  refine s_iconst dX6_read_38 ?_
  refine s_putZ (c := 46) dX6_read_39 lX6_40 e46 (by decide) ?_
  refine s_aload_n (x := 46) dX6_read_42 rfl ?_
  refine s_iconst dX6_read_43 ?_
  refine s_putZ (c := 46) dX6_read_44 lX6_44 e46 (by decide) ?_
  refine s_aload_n (x := 46) dX6_read_47 rfl ?_
  refine s_iconst dX6_read_48 ?_
  refine s_put (c := 46) dX6_read_49 lX6_47 e46 ?_
  refine s_aload_n (x := 46) dX6_read_52 rfl ?_
  refine s_iconst dX6_read_53 ?_
  refine s_put (c := 46) dX6_read_54 lX6_50 e46 ?_
  refine s_aload_n (x := 46) dX6_read_57 rfl ?_
  exact s_callV (as := []) (st := []) (o := 46) dX6_read_58 kX6_53 rfl ⟨6, 12, TX6, e46, rfl, by decide⟩ rfl rfl (Nat.le_of_ble_eq_true rfl) hS (show fr - 1 + 1 ≤ fr by omega) (Nat.zero_le _) (Nat.zero_le _) (fun v n' h' hP _ => by obtain ⟨e, rfl, hR⟩ := hP; cases e; exact kk h' hR) (fun E n' h' _ z => (rV_nt _ _ _ z).elim)
theorem bX6_read_61 {fr M1 M2 b1 b2 : Nat} {Q : RS → Nat → AH → Prop} {h : AH} {x1 x2 x3 x4 x5 : AV}   (kk : Wp mX6_read (kR fr M1 M2) Q (b1, b2) 67 [zR 46, none, none, none, zI 1, zI 0] [] 137 h) : Wp mX6_read (kR fr M1 M2) Q (b1, b2) 61 [zR 46, x1, x2, x3, x4, x5] [] 137 h := by
  refine s_fgt (fgt_c (fgt_n _ (fgt_n _ (fgt_n _ (fgt_n _ (fgt_n _ fgt_0)))))) ?_
  refine s_iconst dX6_read_61 ?_
  refine s_istore dX6_read_62 rfl (by decide) ?_
  refine s_iconst dX6_read_64 ?_
  refine s_istore dX6_read_65 rfl (by decide) ?_
  exact kk
theorem bX6_read_67 {fr M1 M2 b1 b2 : Nat} {Q : RS → Nat → AH → Prop} {h : AH} {l4 l5 : Int} {x1 x2 x3 : AV}  (r1 : -2147483648 ≤ l5 ∧ l5 < 2147483648 := by omega) (kt : 700 ≤ l5 → Wp mX6_read (kR fr M1 M2) Q (b1, b2) 99 [zR 46, none, none, none, zI l4, zI l5] [] 137 h) (kf : l5 < 700 → Wp mX6_read (kR fr M1 M2) Q (b1, b2) 75 [zR 46, none, none, none, zI l4, zI l5] [] 137 h) : Wp mX6_read (kR fr M1 M2) Q (b1, b2) 67 [zR 46, x1, x2, x3, zI l4, zI l5] [] 137 h := by
  refine s_fgt (fgt_c (fgt_n _ (fgt_n _ (fgt_n _ (fgt_c (fgt_c fgt_0)))))) ?_
  refine s_iload (x := l5) dX6_read_67 rfl ?_
  refine s_sipush dX6_read_69 (by decide) ?_
  exact s_icmp_ge (tgt := 99) dX6_read_72 (by decide) r1 ⟨by decide, by decide⟩ kt kf
theorem bX6_read_75 {fr M1 M2 b1 b2 : Nat} {Q : RS → Nat → AH → Prop} {h : AH} {l4 l5 : Int} {x1 x2 x3 : AV}  (r1 : -2147483648 ≤ l4 ∧ l4 < 2147483648 := by omega) (kt : l4 = 0 → Wp mX6_read (kR fr M1 M2) Q (b1, b2) 99 [zR 46, none, none, none, zI l4, zI l5] [] 137 h) (kf : ¬ l4 = 0 → Wp mX6_read (kR fr M1 M2) Q (b1, b2) 80 [zR 46, none, none, none, zI l4, zI l5] [] 137 h) : Wp mX6_read (kR fr M1 M2) Q (b1, b2) 75 [zR 46, x1, x2, x3, zI l4, zI l5] [] 137 h := by
  refine s_fgt (fgt_c (fgt_n _ (fgt_n _ (fgt_n _ (fgt_c (fgt_c fgt_0)))))) ?_
  refine s_iload (x := l4) dX6_read_75 rfl ?_
  exact s_if_eq (tgt := 99) dX6_read_77 (by decide) r1 kt kf
theorem bX6_read_80 {fr M1 M2 b1 b2 : Nat} {Q : RS → Nat → AH → Prop} {h : AH} {l5 : Int} {x1 x2 x3 x4 : AV}  (r1 : -2147483648 ≤ h 46 3 ∧ h 46 3 < 2147483648 := by omega) (kt : h 46 3 = 0 → Wp mX6_read (kR fr M1 M2) Q (b1, b2) 99 [zR 46, none, none, none, none, zI l5] [] 137 h) (kf : ¬ h 46 3 = 0 → Wp mX6_read (kR fr M1 M2) Q (b1, b2) 87 [zR 46, none, none, none, none, zI l5] [] 137 h) : Wp mX6_read (kR fr M1 M2) Q (b1, b2) 80 [zR 46, x1, x2, x3, x4, zI l5] [] 137 h := by
  refine s_fgt (fgt_c (fgt_n _ (fgt_n _ (fgt_n _ (fgt_n _ (fgt_c fgt_0)))))) ?_
  refine s_aload_n (x := 46) dX6_read_80 rfl ?_
  refine s_get (c := 46) dX6_read_81 lX6_56 e46 (by decide) ?_
  exact s_if_eq (tgt := 99) dX6_read_84 (by decide) r1 kt kf
theorem bX6_read_87 {fr M1 M2 b1 b2 : Nat} {Q : RS → Nat → AH → Prop} {h : AH} {l5 : Int} {x1 x2 x3 x4 : AV} {R : Int → AH → Prop}   (hS : Sp mX6_readLine true (fr - 1) 0 0 [zR 46] 137 h (rI R)) (hf : 1 ≤ fr := by omega) (kk : ∀ (x : Int) (h' : AH), R x h' → Wp mX6_read (kR fr M1 M2) Q (b1, b2) 91 [zR 46, none, none, none, none, zI l5] [zI x] 137 h') : Wp mX6_read (kR fr M1 M2) Q (b1, b2) 87 [zR 46, x1, x2, x3, x4, zI l5] [] 137 h := by
  refine s_fgt (fgt_c (fgt_n _ (fgt_n _ (fgt_n _ (fgt_n _ (fgt_c fgt_0)))))) ?_
  refine s_aload_n (x := 46) dX6_read_87 rfl ?_
  exact s_callV (as := []) (st := []) (o := 46) dX6_read_88 kX6_59 rfl ⟨6, 12, TX6, e46, rfl, by decide⟩ rfl rfl (Nat.le_of_ble_eq_true rfl) hS (show fr - 1 + 1 ≤ fr by omega) (Nat.zero_le _) (Nat.zero_le _) (fun v n' h' hP _ => by obtain ⟨x, e, rfl, hR⟩ := hP; cases e; exact kk x h' hR) (fun E n' h' _ z => (rI_nt _ _ _ z).elim)
theorem bX6_read_91 {fr M1 M2 b1 b2 : Nat} {Q : RS → Nat → AH → Prop} {h : AH} {l5 s0 : Int} {x1 x2 x3 x4 : AV}   (kk : Wp mX6_read (kR fr M1 M2) Q (b1, b2) 67 [zR 46, none, none, none, zI s0, zI (l5 + 1)] [] 137 h) : Wp mX6_read (kR fr M1 M2) Q (b1, b2) 91 [zR 46, x1, x2, x3, x4, zI l5] [zI s0] 137 h := by
  refine s_fgt (fgt_c (fgt_n _ (fgt_n _ (fgt_n _ (fgt_n _ (fgt_c fgt_0)))))) ?_
  refine s_istore dX6_read_91 rfl (by decide) ?_
  refine s_iinc (x := l5) dX6_read_93 rfl rfl (by decide) ?_
  exact s_goto (tgt := 67) dX6_read_96 (by decide) kk
theorem bX6_read_99 {fr M1 M2 b1 b2 : Nat} {Q : RS → Nat → AH → Prop} {h : AH} {x1 x2 x3 x4 x5 : AV}   (hq : Q (.inl (some (zI (h 46 10)))) 137 h) : Wp mX6_read (kR fr M1 M2) Q (b1, b2) 99 [zR 46, x1, x2, x3, x4, x5] [] 137 h := by
  refine s_fgt (fgt_c (fgt_n _ (fgt_n _ (fgt_n _ (fgt_n _ (fgt_n _ fgt_0)))))) ?_
  refine s_aload_n (x := 46) dX6_read_99 rfl ?_
  refine s_get (c := 46) dX6_read_100 lX6_47 e46 (by decide) ?_
  exact s_ireturn dX6_read_103 ⟨.int, rfl, rfl⟩ hq (fun z => by cases z)
theorem dX6_fail_0 : decode mX6_fail.cd 0 = .ok (.aload_n 0, 1) := by decide +kernel
theorem dX6_fail_1 : decode mX6_fail.cd 1 = .ok (.iload_n 1, 1) := by decide +kernel
theorem dX6_fail_2 : decode mX6_fail.cd 2 = .ok (.putfield 47, 3) := by decide +kernel
theorem dX6_fail_5 : decode mX6_fail.cd 5 = .ok (.aload_n 0, 1) := by decide +kernel
theorem dX6_fail_6 : decode mX6_fail.cd 6 = .ok (.aload_n 0, 1) := by decide +kernel
theorem dX6_fail_7 : decode mX6_fail.cd 7 = .ok (.getfield 63, 3) := by decide +kernel
theorem dX6_fail_10 : decode mX6_fail.cd 10 = .ok (.putfield 50, 3) := by decide +kernel
theorem dX6_fail_13 : decode mX6_fail.cd 13 = .ok (.iconst 0, 1) := by decide +kernel
theorem dX6_fail_14 : decode mX6_fail.cd 14 = .ok (.ireturn, 1) := by decide +kernel
theorem bX6_fail_0 {fr M1 M2 b1 b2 : Nat} {Q : RS → Nat → AH → Prop} {h : AH} {l1 : Int}   (hq : Q (.inl (some (zI 0))) 137 (up (up h 46 10 l1) 46 11 (h 46 4))) : Wp mX6_fail (kR fr M1 M2) Q (b1, b2) 0 [zR 46, zI l1] [] 137 h := by
  refine s_aload_n (x := 46) dX6_fail_0 rfl ?_
  refine s_iload_n (x := l1) dX6_fail_1 rfl ?_
  refine s_put (c := 46) dX6_fail_2 lX6_47 e46 ?_
  refine s_aload_n (x := 46) dX6_fail_5 rfl ?_
  refine s_aload_n (x := 46) dX6_fail_6 rfl ?_
  refine s_get (c := 46) dX6_fail_7 lX6_63 e46 (by decide) ?_
  refine s_put (c := 46) dX6_fail_10 lX6_50 e46 ?_
  refine s_iconst dX6_fail_13 ?_
  exact s_ireturn dX6_fail_14 ⟨.boolean, rfl, by decide⟩ hq (fun z => by cases z)
theorem dX6_step_0 : decode mX6_step.cd 0 = .ok (.aload_n 0, 1) := by decide +kernel
theorem dX6_step_1 : decode mX6_step.cd 1 = .ok (.aload_n 0, 1) := by decide +kernel
theorem dX6_step_2 : decode mX6_step.cd 2 = .ok (.getfield 34, 3) := by decide +kernel
theorem dX6_step_5 : decode mX6_step.cd 5 = .ok (.putfield 63, 3) := by decide +kernel
theorem dX6_step_8 : decode mX6_step.cd 8 = .ok (.aload_n 0, 1) := by decide +kernel
theorem dX6_step_9 : decode mX6_step.cd 9 = .ok (.getfield 63, 3) := by decide +kernel
theorem dX6_step_12 : decode mX6_step.cd 12 = .ok (.aload_n 0, 1) := by decide +kernel
theorem dX6_step_13 : decode mX6_step.cd 13 = .ok (.getfield 21, 3) := by decide +kernel
theorem dX6_step_16 : decode mX6_step.cd 16 = .ok (.if_icmp .ge 44, 3) := by decide +kernel
theorem dX6_step_19 : decode mX6_step.cd 19 = .ok (.aload_n 0, 1) := by decide +kernel
theorem dX6_step_20 : decode mX6_step.cd 20 = .ok (.getfield 9, 3) := by decide +kernel
theorem dX6_step_23 : decode mX6_step.cd 23 = .ok (.aload_n 0, 1) := by decide +kernel
theorem dX6_step_24 : decode mX6_step.cd 24 = .ok (.getfield 63, 3) := by decide +kernel
theorem dX6_step_27 : decode mX6_step.cd 27 = .ok (.baload, 1) := by decide +kernel
theorem dX6_step_28 : decode mX6_step.cd 28 = .ok (.bipush 32, 2) := by decide +kernel
theorem dX6_step_30 : decode mX6_step.cd 30 = .ok (.if_icmp .eq 17, 3) := by decide +kernel
theorem dX6_step_33 : decode mX6_step.cd 33 = .ok (.aload_n 0, 1) := by decide +kernel
theorem dX6_step_34 : decode mX6_step.cd 34 = .ok (.getfield 9, 3) := by decide +kernel
theorem dX6_step_37 : decode mX6_step.cd 37 = .ok (.aload_n 0, 1) := by decide +kernel
theorem dX6_step_38 : decode mX6_step.cd 38 = .ok (.getfield 63, 3) := by decide +kernel
theorem dX6_step_41 : decode mX6_step.cd 41 = .ok (.baload, 1) := by decide +kernel
theorem dX6_step_42 : decode mX6_step.cd 42 = .ok (.bipush 10, 2) := by decide +kernel
theorem dX6_step_44 : decode mX6_step.cd 44 = .ok (.if_icmp .ne 16, 3) := by decide +kernel
theorem dX6_step_47 : decode mX6_step.cd 47 = .ok (.aload_n 0, 1) := by decide +kernel
theorem dX6_step_48 : decode mX6_step.cd 48 = .ok (.dup, 1) := by decide +kernel
theorem dX6_step_49 : decode mX6_step.cd 49 = .ok (.getfield 63, 3) := by decide +kernel
theorem dX6_step_52 : decode mX6_step.cd 52 = .ok (.iconst 1, 1) := by decide +kernel
theorem dX6_step_53 : decode mX6_step.cd 53 = .ok (.iadd, 1) := by decide +kernel
theorem dX6_step_54 : decode mX6_step.cd 54 = .ok (.putfield 63, 3) := by decide +kernel
theorem dX6_step_57 : decode mX6_step.cd 57 = .ok (.goto (-49), 3) := by decide +kernel
theorem dX6_step_60 : decode mX6_step.cd 60 = .ok (.aload_n 0, 1) := by decide +kernel
theorem dX6_step_61 : decode mX6_step.cd 61 = .ok (.aload_n 0, 1) := by decide +kernel
theorem dX6_step_62 : decode mX6_step.cd 62 = .ok (.getfield 63, 3) := by decide +kernel
theorem dX6_step_65 : decode mX6_step.cd 65 = .ok (.putfield 34, 3) := by decide +kernel
theorem dX6_step_68 : decode mX6_step.cd 68 = .ok (.aload_n 0, 1) := by decide +kernel
theorem dX6_step_69 : decode mX6_step.cd 69 = .ok (.iconst 0, 1) := by decide +kernel
theorem dX6_step_70 : decode mX6_step.cd 70 = .ok (.putfield 66, 3) := by decide +kernel
theorem dX6_step_73 : decode mX6_step.cd 73 = .ok (.aload_n 0, 1) := by decide +kernel
theorem dX6_step_74 : decode mX6_step.cd 74 = .ok (.getfield 63, 3) := by decide +kernel
theorem dX6_step_77 : decode mX6_step.cd 77 = .ok (.aload_n 0, 1) := by decide +kernel
theorem dX6_step_78 : decode mX6_step.cd 78 = .ok (.getfield 21, 3) := by decide +kernel
theorem dX6_step_81 : decode mX6_step.cd 81 = .ok (.if_icmp .lt 9, 3) := by decide +kernel
theorem dX6_step_84 : decode mX6_step.cd 84 = .ok (.aload_n 0, 1) := by decide +kernel
theorem dX6_step_85 : decode mX6_step.cd 85 = .ok (.iconst 0, 1) := by decide +kernel
theorem dX6_step_86 : decode mX6_step.cd 86 = .ok (.putfield 56, 3) := by decide +kernel
theorem dX6_step_89 : decode mX6_step.cd 89 = .ok (.return_, 1) := by decide +kernel
theorem dX6_step_90 : decode mX6_step.cd 90 = .ok (.aload_n 0, 1) := by decide +kernel
theorem dX6_step_91 : decode mX6_step.cd 91 = .ok (.getfield 34, 3) := by decide +kernel
theorem dX6_step_94 : decode mX6_step.cd 94 = .ok (.aload_n 0, 1) := by decide +kernel
theorem dX6_step_95 : decode mX6_step.cd 95 = .ok (.getfield 21, 3) := by decide +kernel
theorem dX6_step_98 : decode mX6_step.cd 98 = .ok (.if_icmp .ge 31, 3) := by decide +kernel
theorem dX6_step_101 : decode mX6_step.cd 101 = .ok (.aload_n 0, 1) := by decide +kernel
theorem dX6_step_102 : decode mX6_step.cd 102 = .ok (.getfield 9, 3) := by decide +kernel
theorem dX6_step_105 : decode mX6_step.cd 105 = .ok (.aload_n 0, 1) := by decide +kernel
theorem dX6_step_106 : decode mX6_step.cd 106 = .ok (.getfield 34, 3) := by decide +kernel
theorem dX6_step_109 : decode mX6_step.cd 109 = .ok (.baload, 1) := by decide +kernel
theorem dX6_step_110 : decode mX6_step.cd 110 = .ok (.invokestatic 69, 3) := by decide +kernel
theorem dX6_step_113 : decode mX6_step.cd 113 = .ok (.ifCond .eq 16, 3) := by decide +kernel
theorem dX6_step_116 : decode mX6_step.cd 116 = .ok (.aload_n 0, 1) := by decide +kernel
theorem dX6_step_117 : decode mX6_step.cd 117 = .ok (.dup, 1) := by decide +kernel
theorem dX6_step_118 : decode mX6_step.cd 118 = .ok (.getfield 34, 3) := by decide +kernel
theorem dX6_step_121 : decode mX6_step.cd 121 = .ok (.iconst 1, 1) := by decide +kernel
theorem dX6_step_122 : decode mX6_step.cd 122 = .ok (.iadd, 1) := by decide +kernel
theorem dX6_step_123 : decode mX6_step.cd 123 = .ok (.putfield 34, 3) := by decide +kernel
theorem dX6_step_126 : decode mX6_step.cd 126 = .ok (.goto (-36), 3) := by decide +kernel
theorem dX6_step_129 : decode mX6_step.cd 129 = .ok (.aload_n 0, 1) := by decide +kernel
theorem dX6_step_130 : decode mX6_step.cd 130 = .ok (.getfield 34, 3) := by decide +kernel
theorem dX6_step_133 : decode mX6_step.cd 133 = .ok (.aload_n 0, 1) := by decide +kernel
theorem dX6_step_134 : decode mX6_step.cd 134 = .ok (.getfield 63, 3) := by decide +kernel
theorem dX6_step_137 : decode mX6_step.cd 137 = .ok (.if_icmp .le 9, 3) := by decide +kernel
theorem dX6_step_140 : decode mX6_step.cd 140 = .ok (.aload_n 0, 1) := by decide +kernel
theorem dX6_step_141 : decode mX6_step.cd 141 = .ok (.iconst 1, 1) := by decide +kernel
theorem dX6_step_142 : decode mX6_step.cd 142 = .ok (.putfield 56, 3) := by decide +kernel
theorem dX6_step_145 : decode mX6_step.cd 145 = .ok (.return_, 1) := by decide +kernel
theorem dX6_step_146 : decode mX6_step.cd 146 = .ok (.aload_n 0, 1) := by decide +kernel
theorem dX6_step_147 : decode mX6_step.cd 147 = .ok (.getfield 34, 3) := by decide +kernel
theorem dX6_step_150 : decode mX6_step.cd 150 = .ok (.aload_n 0, 1) := by decide +kernel
theorem dX6_step_151 : decode mX6_step.cd 151 = .ok (.getfield 21, 3) := by decide +kernel
theorem dX6_step_154 : decode mX6_step.cd 154 = .ok (.if_icmp .ge 68, 3) := by decide +kernel
theorem dX6_step_157 : decode mX6_step.cd 157 = .ok (.aload_n 0, 1) := by decide +kernel
theorem dX6_step_158 : decode mX6_step.cd 158 = .ok (.getfield 9, 3) := by decide +kernel
theorem dX6_step_161 : decode mX6_step.cd 161 = .ok (.aload_n 0, 1) := by decide +kernel
theorem dX6_step_162 : decode mX6_step.cd 162 = .ok (.getfield 34, 3) := by decide +kernel
theorem dX6_step_165 : decode mX6_step.cd 165 = .ok (.baload, 1) := by decide +kernel
theorem dX6_step_166 : decode mX6_step.cd 166 = .ok (.invokestatic 73, 3) := by decide +kernel
theorem dX6_step_169 : decode mX6_step.cd 169 = .ok (.ifCond .eq 53, 3) := by decide +kernel
theorem dX6_step_172 : decode mX6_step.cd 172 = .ok (.aload_n 0, 1) := by decide +kernel
theorem dX6_step_173 : decode mX6_step.cd 173 = .ok (.getfield 34, 3) := by decide +kernel
theorem dX6_step_176 : decode mX6_step.cd 176 = .ok (.aload_n 0, 1) := by decide +kernel
theorem dX6_step_177 : decode mX6_step.cd 177 = .ok (.getfield 63, 3) := by decide +kernel
theorem dX6_step_180 : decode mX6_step.cd 180 = .ok (.isub, 1) := by decide +kernel
theorem dX6_step_181 : decode mX6_step.cd 181 = .ok (.iconst 4, 1) := by decide +kernel
theorem dX6_step_182 : decode mX6_step.cd 182 = .ok (.if_icmp .ge 27, 3) := by decide +kernel
theorem dX6_step_185 : decode mX6_step.cd 185 = .ok (.aload_n 0, 1) := by decide +kernel
theorem dX6_step_186 : decode mX6_step.cd 186 = .ok (.aload_n 0, 1) := by decide +kernel
theorem dX6_step_187 : decode mX6_step.cd 187 = .ok (.getfield 66, 3) := by decide +kernel
theorem dX6_step_190 : decode mX6_step.cd 190 = .ok (.bipush 10, 2) := by decide +kernel
theorem dX6_step_192 : decode mX6_step.cd 192 = .ok (.imul, 1) := by decide +kernel
theorem dX6_step_193 : decode mX6_step.cd 193 = .ok (.aload_n 0, 1) := by decide +kernel
theorem dX6_step_194 : decode mX6_step.cd 194 = .ok (.getfield 9, 3) := by decide +kernel
theorem dX6_step_197 : decode mX6_step.cd 197 = .ok (.aload_n 0, 1) := by decide +kernel
theorem dX6_step_198 : decode mX6_step.cd 198 = .ok (.getfield 34, 3) := by decide +kernel
theorem dX6_step_201 : decode mX6_step.cd 201 = .ok (.baload, 1) := by decide +kernel
theorem dX6_step_202 : decode mX6_step.cd 202 = .ok (.iadd, 1) := by decide +kernel
theorem dX6_step_203 : decode mX6_step.cd 203 = .ok (.bipush 48, 2) := by decide +kernel
theorem dX6_step_205 : decode mX6_step.cd 205 = .ok (.isub, 1) := by decide +kernel
theorem dX6_step_206 : decode mX6_step.cd 206 = .ok (.putfield 66, 3) := by decide +kernel
theorem dX6_step_209 : decode mX6_step.cd 209 = .ok (.aload_n 0, 1) := by decide +kernel
theorem dX6_step_210 : decode mX6_step.cd 210 = .ok (.dup, 1) := by decide +kernel
theorem dX6_step_211 : decode mX6_step.cd 211 = .ok (.getfield 34, 3) := by decide +kernel
theorem dX6_step_214 : decode mX6_step.cd 214 = .ok (.iconst 1, 1) := by decide +kernel
theorem dX6_step_215 : decode mX6_step.cd 215 = .ok (.iadd, 1) := by decide +kernel
theorem dX6_step_216 : decode mX6_step.cd 216 = .ok (.putfield 34, 3) := by decide +kernel
theorem dX6_step_219 : decode mX6_step.cd 219 = .ok (.goto (-73), 3) := by decide +kernel
theorem dX6_step_222 : decode mX6_step.cd 222 = .ok (.aload_n 0, 1) := by decide +kernel
theorem dX6_step_223 : decode mX6_step.cd 223 = .ok (.getfield 34, 3) := by decide +kernel
theorem dX6_step_226 : decode mX6_step.cd 226 = .ok (.aload_n 0, 1) := by decide +kernel
theorem dX6_step_227 : decode mX6_step.cd 227 = .ok (.getfield 63, 3) := by decide +kernel
theorem dX6_step_230 : decode mX6_step.cd 230 = .ok (.if_icmp .le 9, 3) := by decide +kernel
theorem dX6_step_233 : decode mX6_step.cd 233 = .ok (.aload_n 0, 1) := by decide +kernel
theorem dX6_step_234 : decode mX6_step.cd 234 = .ok (.iconst 2, 1) := by decide +kernel
theorem dX6_step_235 : decode mX6_step.cd 235 = .ok (.putfield 56, 3) := by decide +kernel
theorem dX6_step_238 : decode mX6_step.cd 238 = .ok (.return_, 1) := by decide +kernel
theorem dX6_step_239 : decode mX6_step.cd 239 = .ok (.aload_n 0, 1) := by decide +kernel
theorem dX6_step_240 : decode mX6_step.cd 240 = .ok (.aload_n 0, 1) := by decide +kernel
theorem dX6_step_241 : decode mX6_step.cd 241 = .ok (.getfield 9, 3) := by decide +kernel
theorem dX6_step_244 : decode mX6_step.cd 244 = .ok (.aload_n 0, 1) := by decide +kernel
theorem dX6_step_245 : decode mX6_step.cd 245 = .ok (.getfield 63, 3) := by decide +kernel
theorem dX6_step_248 : decode mX6_step.cd 248 = .ok (.baload, 1) := by decide +kernel
theorem dX6_step_249 : decode mX6_step.cd 249 = .ok (.bipush 59, 2) := by decide +kernel
theorem dX6_step_251 : decode mX6_step.cd 251 = .ok (.if_icmp .ne 7, 3) := by decide +kernel
theorem dX6_step_254 : decode mX6_step.cd 254 = .ok (.iconst 3, 1) := by decide +kernel
theorem dX6_step_255 : decode mX6_step.cd 255 = .ok (.goto 4, 3) := by decide +kernel
theorem dX6_step_258 : decode mX6_step.cd 258 = .ok (.iconst 4, 1) := by decide +kernel
theorem dX6_step_259 : decode mX6_step.cd 259 = .ok (.putfield 56, 3) := by decide +kernel
theorem dX6_step_262 : decode mX6_step.cd 262 = .ok (.aload_n 0, 1) := by decide +kernel
theorem dX6_step_263 : decode mX6_step.cd 263 = .ok (.dup, 1) := by decide +kernel
theorem dX6_step_264 : decode mX6_step.cd 264 = .ok (.getfield 34, 3) := by decide +kernel
theorem dX6_step_267 : decode mX6_step.cd 267 = .ok (.iconst 1, 1) := by decide +kernel
theorem dX6_step_268 : decode mX6_step.cd 268 = .ok (.iadd, 1) := by decide +kernel
theorem dX6_step_269 : decode mX6_step.cd 269 = .ok (.putfield 34, 3) := by decide +kernel
theorem dX6_step_272 : decode mX6_step.cd 272 = .ok (.return_, 1) := by decide +kernel
theorem bX6_step_0 {fr M1 M2 b1 b2 : Nat} {Q : RS → Nat → AH → Prop} {h : AH}   (kk : Wp mX6_step (kR fr M1 M2) Q (b1, b2) 8 [zR 46] [] 137 (up h 46 4 (h 46 5))) : Wp mX6_step (kR fr M1 M2) Q (b1, b2) 0 [zR 46] [] 137 h := by
  refine s_aload_n (x := 46) dX6_step_0 rfl ?_
  refine s_aload_n (x := 46) dX6_step_1 rfl ?_
  refine s_get (c := 46) dX6_step_2 lX6_34 e46 (by decide) ?_
  refine s_put (c := 46) dX6_step_5 lX6_63 e46 ?_
  exact kk
theorem bX6_step_8 {fr M1 M2 b1 b2 : Nat} {Q : RS → Nat → AH → Prop} {h : AH}  (r1 : -2147483648 ≤ h 46 4 ∧ h 46 4 < 2147483648 := by omega) (r2 : -2147483648 ≤ h 46 1 ∧ h 46 1 < 2147483648 := by omega) (kt : h 46 1 ≤ h 46 4 → Wp mX6_step (kR fr M1 M2) Q (b1, b2) 60 [zR 46] [] 137 h) (kf : h 46 4 < h 46 1 → Wp mX6_step (kR fr M1 M2) Q (b1, b2) 19 [zR 46] [] 137 h) : Wp mX6_step (kR fr M1 M2) Q (b1, b2) 8 [zR 46] [] 137 h := by
  refine s_aload_n (x := 46) dX6_step_8 rfl ?_
  refine s_get (c := 46) dX6_step_9 lX6_63 e46 (by decide) ?_
  refine s_aload_n (x := 46) dX6_step_12 rfl ?_
  refine s_get (c := 46) dX6_step_13 lX6_21 e46 (by decide) ?_
  exact s_icmp_ge (tgt := 60) dX6_step_16 (by decide) r1 r2 kt kf
theorem bX6_step_19 {fr M1 M2 b1 b2 : Nat} {Q : RS → Nat → AH → Prop} {h : AH} {N1 : Nat} (c1 : cel 137 (h 46 0) (101, N1) := by first | assumption | omega) (r1 : 0 ≤ h 46 4 ∧ h 46 4 < N1 := by omega) (r2 : -2147483648 ≤ h (h 46 0) (h 46 4) ∧ h (h 46 0) (h 46 4) < 2147483648 := by omega) (kt : h (h 46 0) (h 46 4) = 32 → Wp mX6_step (kR fr M1 M2) Q (b1, b2) 47 [zR 46] [] 137 h) (kf : ¬ h (h 46 0) (h 46 4) = 32 → Wp mX6_step (kR fr M1 M2) Q (b1, b2) 33 [zR 46] [] 137 h) : Wp mX6_step (kR fr M1 M2) Q (b1, b2) 19 [zR 46] [] 137 h := by
  refine s_aload_n (x := 46) dX6_step_19 rfl ?_
  refine s_getR (c := 46) dX6_step_20 lX6_9 e46 rfl ?_
  refine s_aload_n (x := 46) dX6_step_23 rfl ?_
  refine s_get (c := 46) dX6_step_24 lX6_63 e46 (by decide) ?_
  refine s_bald (c := h 46 0) (i := h 46 4) dX6_step_27 c1 r1.1 r1.2 ?_
  refine s_bipush dX6_step_28 (by decide) ?_
  exact s_icmp_eq (tgt := 47) dX6_step_30 (by decide) r2 ⟨by decide, by decide⟩ kt kf
theorem bX6_step_33 {fr M1 M2 b1 b2 : Nat} {Q : RS → Nat → AH → Prop} {h : AH} {N1 : Nat} (c1 : cel 137 (h 46 0) (101, N1) := by first | assumption | omega) (r1 : 0 ≤ h 46 4 ∧ h 46 4 < N1 := by omega) (r2 : -2147483648 ≤ h (h 46 0) (h 46 4) ∧ h (h 46 0) (h 46 4) < 2147483648 := by omega) (kt : ¬ h (h 46 0) (h 46 4) = 10 → Wp mX6_step (kR fr M1 M2) Q (b1, b2) 60 [zR 46] [] 137 h) (kf : h (h 46 0) (h 46 4) = 10 → Wp mX6_step (kR fr M1 M2) Q (b1, b2) 47 [zR 46] [] 137 h) : Wp mX6_step (kR fr M1 M2) Q (b1, b2) 33 [zR 46] [] 137 h := by
  refine s_aload_n (x := 46) dX6_step_33 rfl ?_
  refine s_getR (c := 46) dX6_step_34 lX6_9 e46 rfl ?_
  refine s_aload_n (x := 46) dX6_step_37 rfl ?_
  refine s_get (c := 46) dX6_step_38 lX6_63 e46 (by decide) ?_
  refine s_bald (c := h 46 0) (i := h 46 4) dX6_step_41 c1 r1.1 r1.2 ?_
  refine s_bipush dX6_step_42 (by decide) ?_
  exact s_icmp_ne (tgt := 60) dX6_step_44 (by decide) r2 ⟨by decide, by decide⟩ kt kf
theorem bX6_step_47 {fr M1 M2 b1 b2 : Nat} {Q : RS → Nat → AH → Prop} {h : AH}   (kk : Wp mX6_step (kR fr M1 M2) Q (b1, b2) 8 [zR 46] [] 137 (up h 46 4 ((h 46 4) + 1))) : Wp mX6_step (kR fr M1 M2) Q (b1, b2) 47 [zR 46] [] 137 h := by
  refine s_aload_n (x := 46) dX6_step_47 rfl ?_
  refine s_dup dX6_step_48 rfl ?_
  refine s_get (c := 46) dX6_step_49 lX6_63 e46 (by decide) ?_
  refine s_iconst dX6_step_52 ?_
  refine s_iadd dX6_step_53 ?_
  refine s_put (c := 46) dX6_step_54 lX6_63 e46 ?_
  exact s_goto (tgt := 8) dX6_step_57 (by decide) kk
theorem bX6_step_60 {fr M1 M2 b1 b2 : Nat} {Q : RS → Nat → AH → Prop} {h : AH}  (r1 : -2147483648 ≤ h 46 4 ∧ h 46 4 < 2147483648 := by omega) (r2 : -2147483648 ≤ h 46 1 ∧ h 46 1 < 2147483648 := by omega) (kt : h 46 4 < h 46 1 → Wp mX6_step (kR fr M1 M2) Q (b1, b2) 90 [zR 46] [] 137 (up (up h 46 5 (h 46 4)) 46 6 0)) (kf : h 46 1 ≤ h 46 4 → Wp mX6_step (kR fr M1 M2) Q (b1, b2) 84 [zR 46] [] 137 (up (up h 46 5 (h 46 4)) 46 6 0)) : Wp mX6_step (kR fr M1 M2) Q (b1, b2) 60 [zR 46] [] 137 h := by
  refine s_aload_n (x := 46) dX6_step_60 rfl ?_
  refine s_aload_n (x := 46) dX6_step_61 rfl ?_
  refine s_get (c := 46) dX6_step_62 lX6_63 e46 (by decide) ?_
  refine s_put (c := 46) dX6_step_65 lX6_34 e46 ?_
  refine s_aload_n (x := 46) dX6_step_68 rfl ?_
  refine s_iconst dX6_step_69 ?_
  refine s_put (c := 46) dX6_step_70 lX6_66 e46 ?_
  refine s_aload_n (x := 46) dX6_step_73 rfl ?_
  refine s_get (c := 46) dX6_step_74 lX6_63 e46 (by decide) ?_
  refine s_aload_n (x := 46) dX6_step_77 rfl ?_
  refine s_get (c := 46) dX6_step_78 lX6_21 e46 (by decide) ?_
  exact s_icmp_lt (tgt := 90) dX6_step_81 (by decide) r1 r2 kt kf
theorem bX6_step_84 {fr M1 M2 b1 b2 : Nat} {Q : RS → Nat → AH → Prop} {h : AH}   (hq : Q (.inl none) 137 (up h 46 3 0)) : Wp mX6_step (kR fr M1 M2) Q (b1, b2) 84 [zR 46] [] 137 h := by
  refine s_aload_n (x := 46) dX6_step_84 rfl ?_
  refine s_iconst dX6_step_85 ?_
  refine s_put (c := 46) dX6_step_86 lX6_56 e46 ?_
  exact s_return dX6_step_89 rfl hq (fun z => by cases z)
theorem bX6_step_90 {fr M1 M2 b1 b2 : Nat} {Q : RS → Nat → AH → Prop} {h : AH}  (r1 : -2147483648 ≤ h 46 5 ∧ h 46 5 < 2147483648 := by omega) (r2 : -2147483648 ≤ h 46 1 ∧ h 46 1 < 2147483648 := by omega) (kt : h 46 1 ≤ h 46 5 → Wp mX6_step (kR fr M1 M2) Q (b1, b2) 129 [zR 46] [] 137 h) (kf : h 46 5 < h 46 1 → Wp mX6_step (kR fr M1 M2) Q (b1, b2) 101 [zR 46] [] 137 h) : Wp mX6_step (kR fr M1 M2) Q (b1, b2) 90 [zR 46] [] 137 h := by
  refine s_aload_n (x := 46) dX6_step_90 rfl ?_
  refine s_get (c := 46) dX6_step_91 lX6_34 e46 (by decide) ?_
  refine s_aload_n (x := 46) dX6_step_94 rfl ?_
  refine s_get (c := 46) dX6_step_95 lX6_21 e46 (by decide) ?_
  exact s_icmp_ge (tgt := 129) dX6_step_98 (by decide) r1 r2 kt kf
theorem bX6_step_101 {fr M1 M2 b1 b2 : Nat} {Q : RS → Nat → AH → Prop} {h : AH} {N1 : Nat} {R : Int → AH → Prop} (c1 : cel 137 (h 46 0) (101, N1) := by first | assumption | omega) (r1 : 0 ≤ h 46 5 ∧ h 46 5 < N1 := by omega) (hS : Sp mX6_isLetter true (fr - 1) 0 0 [zI (h (h 46 0) (h 46 5))] 137 h (rI R)) (hf : 1 ≤ fr := by omega) (kk : ∀ (x : Int) (h' : AH), R x h' → Wp mX6_step (kR fr M1 M2) Q (b1, b2) 113 [zR 46] [zI x] 137 h') : Wp mX6_step (kR fr M1 M2) Q (b1, b2) 101 [zR 46] [] 137 h := by
  refine s_aload_n (x := 46) dX6_step_101 rfl ?_
  refine s_getR (c := 46) dX6_step_102 lX6_9 e46 rfl ?_
  refine s_aload_n (x := 46) dX6_step_105 rfl ?_
  refine s_get (c := 46) dX6_step_106 lX6_34 e46 (by decide) ?_
  refine s_bald (c := h 46 0) (i := h 46 5) dX6_step_109 c1 r1.1 r1.2 ?_
  exact s_callS (as := [zI (h (h 46 0) (h 46 5))]) (st := []) dX6_step_110 kX6_69 rfl rfl (Nat.le_of_ble_eq_true rfl) hS (show fr - 1 + 1 ≤ fr by omega) (Nat.zero_le _) (Nat.zero_le _) (fun v n' h' hP _ => by obtain ⟨x, e, rfl, hR⟩ := hP; cases e; exact kk x h' hR) (fun E n' h' _ z => (rI_nt _ _ _ z).elim)
theorem bX6_step_113 {fr M1 M2 b1 b2 : Nat} {Q : RS → Nat → AH → Prop} {h : AH} {s0 : Int}  (r1 : -2147483648 ≤ s0 ∧ s0 < 2147483648 := by omega) (kt : s0 = 0 → Wp mX6_step (kR fr M1 M2) Q (b1, b2) 129 [zR 46] [] 137 h) (kf : ¬ s0 = 0 → Wp mX6_step (kR fr M1 M2) Q (b1, b2) 116 [zR 46] [] 137 h) : Wp mX6_step (kR fr M1 M2) Q (b1, b2) 113 [zR 46] [zI s0] 137 h := by
  exact s_if_eq (tgt := 129) dX6_step_113 (by decide) r1 kt kf
theorem bX6_step_116 {fr M1 M2 b1 b2 : Nat} {Q : RS → Nat → AH → Prop} {h : AH}   (kk : Wp mX6_step (kR fr M1 M2) Q (b1, b2) 90 [zR 46] [] 137 (up h 46 5 ((h 46 5) + 1))) : Wp mX6_step (kR fr M1 M2) Q (b1, b2) 116 [zR 46] [] 137 h := by
  refine s_aload_n (x := 46) dX6_step_116 rfl ?_
  refine s_dup dX6_step_117 rfl ?_
  refine s_get (c := 46) dX6_step_118 lX6_34 e46 (by decide) ?_
  refine s_iconst dX6_step_121 ?_
  refine s_iadd dX6_step_122 ?_
  refine s_put (c := 46) dX6_step_123 lX6_34 e46 ?_
  exact s_goto (tgt := 90) dX6_step_126 (by decide) kk
theorem bX6_step_129 {fr M1 M2 b1 b2 : Nat} {Q : RS → Nat → AH → Prop} {h : AH}  (r1 : -2147483648 ≤ h 46 5 ∧ h 46 5 < 2147483648 := by omega) (r2 : -2147483648 ≤ h 46 4 ∧ h 46 4 < 2147483648 := by omega) (kt : h 46 5 ≤ h 46 4 → Wp mX6_step (kR fr M1 M2) Q (b1, b2) 146 [zR 46] [] 137 h) (kf : h 46 4 < h 46 5 → Wp mX6_step (kR fr M1 M2) Q (b1, b2) 140 [zR 46] [] 137 h) : Wp mX6_step (kR fr M1 M2) Q (b1, b2) 129 [zR 46] [] 137 h := by
  refine s_aload_n (x := 46) dX6_step_129 rfl ?_
  refine s_get (c := 46) dX6_step_130 lX6_34 e46 (by decide) ?_
  refine s_aload_n (x := 46) dX6_step_133 rfl ?_
  refine s_get (c := 46) dX6_step_134 lX6_63 e46 (by decide) ?_
  exact s_icmp_le (tgt := 146) dX6_step_137 (by decide) r1 r2 kt kf
theorem bX6_step_140 {fr M1 M2 b1 b2 : Nat} {Q : RS → Nat → AH → Prop} {h : AH}   (hq : Q (.inl none) 137 (up h 46 3 1)) : Wp mX6_step (kR fr M1 M2) Q (b1, b2) 140 [zR 46] [] 137 h := by
  refine s_aload_n (x := 46) dX6_step_140 rfl ?_
  refine s_iconst dX6_step_141 ?_
  refine s_put (c := 46) dX6_step_142 lX6_56 e46 ?_
  exact s_return dX6_step_145 rfl hq (fun z => by cases z)
theorem bX6_step_146 {fr M1 M2 b1 b2 : Nat} {Q : RS → Nat → AH → Prop} {h : AH}  (r1 : -2147483648 ≤ h 46 5 ∧ h 46 5 < 2147483648 := by omega) (r2 : -2147483648 ≤ h 46 1 ∧ h 46 1 < 2147483648 := by omega) (kt : h 46 1 ≤ h 46 5 → Wp mX6_step (kR fr M1 M2) Q (b1, b2) 222 [zR 46] [] 137 h) (kf : h 46 5 < h 46 1 → Wp mX6_step (kR fr M1 M2) Q (b1, b2) 157 [zR 46] [] 137 h) : Wp mX6_step (kR fr M1 M2) Q (b1, b2) 146 [zR 46] [] 137 h := by
  refine s_aload_n (x := 46) dX6_step_146 rfl ?_
  refine s_get (c := 46) dX6_step_147 lX6_34 e46 (by decide) ?_
  refine s_aload_n (x := 46) dX6_step_150 rfl ?_
  refine s_get (c := 46) dX6_step_151 lX6_21 e46 (by decide) ?_
  exact s_icmp_ge (tgt := 222) dX6_step_154 (by decide) r1 r2 kt kf
theorem bX6_step_157 {fr M1 M2 b1 b2 : Nat} {Q : RS → Nat → AH → Prop} {h : AH} {N1 : Nat} {R : Int → AH → Prop} (c1 : cel 137 (h 46 0) (101, N1) := by first | assumption | omega) (r1 : 0 ≤ h 46 5 ∧ h 46 5 < N1 := by omega) (hS : Sp mX6_isDigit true (fr - 1) 0 0 [zI (h (h 46 0) (h 46 5))] 137 h (rI R)) (hf : 1 ≤ fr := by omega) (kk : ∀ (x : Int) (h' : AH), R x h' → Wp mX6_step (kR fr M1 M2) Q (b1, b2) 169 [zR 46] [zI x] 137 h') : Wp mX6_step (kR fr M1 M2) Q (b1, b2) 157 [zR 46] [] 137 h := by
  refine s_aload_n (x := 46) dX6_step_157 rfl ?_
  refine s_getR (c := 46) dX6_step_158 lX6_9 e46 rfl ?_
  refine s_aload_n (x := 46) dX6_step_161 rfl ?_
  refine s_get (c := 46) dX6_step_162 lX6_34 e46 (by decide) ?_
  refine s_bald (c := h 46 0) (i := h 46 5) dX6_step_165 c1 r1.1 r1.2 ?_
  exact s_callS (as := [zI (h (h 46 0) (h 46 5))]) (st := []) dX6_step_166 kX6_73 rfl rfl (Nat.le_of_ble_eq_true rfl) hS (show fr - 1 + 1 ≤ fr by omega) (Nat.zero_le _) (Nat.zero_le _) (fun v n' h' hP _ => by obtain ⟨x, e, rfl, hR⟩ := hP; cases e; exact kk x h' hR) (fun E n' h' _ z => (rI_nt _ _ _ z).elim)
theorem bX6_step_169 {fr M1 M2 b1 b2 : Nat} {Q : RS → Nat → AH → Prop} {h : AH} {s0 : Int}  (r1 : -2147483648 ≤ s0 ∧ s0 < 2147483648 := by omega) (kt : s0 = 0 → Wp mX6_step (kR fr M1 M2) Q (b1, b2) 222 [zR 46] [] 137 h) (kf : ¬ s0 = 0 → Wp mX6_step (kR fr M1 M2) Q (b1, b2) 172 [zR 46] [] 137 h) : Wp mX6_step (kR fr M1 M2) Q (b1, b2) 169 [zR 46] [zI s0] 137 h := by
  exact s_if_eq (tgt := 222) dX6_step_169 (by decide) r1 kt kf
theorem bX6_step_172 {fr M1 M2 b1 b2 : Nat} {Q : RS → Nat → AH → Prop} {h : AH}  (r1 : -2147483648 ≤ (h 46 5) - (h 46 4) ∧ (h 46 5) - (h 46 4) < 2147483648 := by omega) (kt : 4 ≤ (h 46 5) - (h 46 4) → Wp mX6_step (kR fr M1 M2) Q (b1, b2) 209 [zR 46] [] 137 h) (kf : (h 46 5) - (h 46 4) < 4 → Wp mX6_step (kR fr M1 M2) Q (b1, b2) 185 [zR 46] [] 137 h) : Wp mX6_step (kR fr M1 M2) Q (b1, b2) 172 [zR 46] [] 137 h := by
  refine s_aload_n (x := 46) dX6_step_172 rfl ?_
  refine s_get (c := 46) dX6_step_173 lX6_34 e46 (by decide) ?_
  refine s_aload_n (x := 46) dX6_step_176 rfl ?_
  refine s_get (c := 46) dX6_step_177 lX6_63 e46 (by decide) ?_
  refine s_isub dX6_step_180 ?_
  refine s_iconst dX6_step_181 ?_
  exact s_icmp_ge (tgt := 209) dX6_step_182 (by decide) r1 ⟨by decide, by decide⟩ kt kf
theorem bX6_step_185 {fr M1 M2 b1 b2 : Nat} {Q : RS → Nat → AH → Prop} {h : AH} {N1 : Nat} (c1 : cel 137 (h 46 0) (101, N1) := by first | assumption | omega) (r1 : 0 ≤ h 46 5 ∧ h 46 5 < N1 := by omega) (kk : Wp mX6_step (kR fr M1 M2) Q (b1, b2) 209 [zR 46] [] 137 (up h 46 6 ((((h 46 6) * 10) + (h (h 46 0) (h 46 5))) - 48))) : Wp mX6_step (kR fr M1 M2) Q (b1, b2) 185 [zR 46] [] 137 h := by
  refine s_aload_n (x := 46) dX6_step_185 rfl ?_
  refine s_aload_n (x := 46) dX6_step_186 rfl ?_
  refine s_get (c := 46) dX6_step_187 lX6_66 e46 (by decide) ?_
  refine s_bipush dX6_step_190 (by decide) ?_
  refine s_imul dX6_step_192 ?_
  refine s_aload_n (x := 46) dX6_step_193 rfl ?_
  refine s_getR (c := 46) dX6_step_194 lX6_9 e46 rfl ?_
  refine s_aload_n (x := 46) dX6_step_197 rfl ?_
  refine s_get (c := 46) dX6_step_198 lX6_34 e46 (by decide) ?_
  refine s_bald (c := h 46 0) (i := h 46 5) dX6_step_201 c1 r1.1 r1.2 ?_
  refine s_iadd dX6_step_202 ?_
  refine s_bipush dX6_step_203 (by decide) ?_
  refine s_isub dX6_step_205 ?_
  refine s_put (c := 46) dX6_step_206 lX6_66 e46 ?_
  exact kk
theorem bX6_step_209 {fr M1 M2 b1 b2 : Nat} {Q : RS → Nat → AH → Prop} {h : AH}   (kk : Wp mX6_step (kR fr M1 M2) Q (b1, b2) 146 [zR 46] [] 137 (up h 46 5 ((h 46 5) + 1))) : Wp mX6_step (kR fr M1 M2) Q (b1, b2) 209 [zR 46] [] 137 h := by
  refine s_aload_n (x := 46) dX6_step_209 rfl ?_
  refine s_dup dX6_step_210 rfl ?_
  refine s_get (c := 46) dX6_step_211 lX6_34 e46 (by decide) ?_
  refine s_iconst dX6_step_214 ?_
  refine s_iadd dX6_step_215 ?_
  refine s_put (c := 46) dX6_step_216 lX6_34 e46 ?_
  exact s_goto (tgt := 146) dX6_step_219 (by decide) kk
theorem bX6_step_222 {fr M1 M2 b1 b2 : Nat} {Q : RS → Nat → AH → Prop} {h : AH}  (r1 : -2147483648 ≤ h 46 5 ∧ h 46 5 < 2147483648 := by omega) (r2 : -2147483648 ≤ h 46 4 ∧ h 46 4 < 2147483648 := by omega) (kt : h 46 5 ≤ h 46 4 → Wp mX6_step (kR fr M1 M2) Q (b1, b2) 239 [zR 46] [] 137 h) (kf : h 46 4 < h 46 5 → Wp mX6_step (kR fr M1 M2) Q (b1, b2) 233 [zR 46] [] 137 h) : Wp mX6_step (kR fr M1 M2) Q (b1, b2) 222 [zR 46] [] 137 h := by
  refine s_aload_n (x := 46) dX6_step_222 rfl ?_
  refine s_get (c := 46) dX6_step_223 lX6_34 e46 (by decide) ?_
  refine s_aload_n (x := 46) dX6_step_226 rfl ?_
  refine s_get (c := 46) dX6_step_227 lX6_63 e46 (by decide) ?_
  exact s_icmp_le (tgt := 239) dX6_step_230 (by decide) r1 r2 kt kf
theorem bX6_step_233 {fr M1 M2 b1 b2 : Nat} {Q : RS → Nat → AH → Prop} {h : AH}   (hq : Q (.inl none) 137 (up h 46 3 2)) : Wp mX6_step (kR fr M1 M2) Q (b1, b2) 233 [zR 46] [] 137 h := by
  refine s_aload_n (x := 46) dX6_step_233 rfl ?_
  refine s_iconst dX6_step_234 ?_
  refine s_put (c := 46) dX6_step_235 lX6_56 e46 ?_
  exact s_return dX6_step_238 rfl hq (fun z => by cases z)
theorem bX6_step_239 {fr M1 M2 b1 b2 : Nat} {Q : RS → Nat → AH → Prop} {h : AH} {N1 : Nat} (c1 : cel 137 (h 46 0) (101, N1) := by first | assumption | omega) (r1 : 0 ≤ h 46 4 ∧ h 46 4 < N1 := by omega) (r2 : -2147483648 ≤ h (h 46 0) (h 46 4) ∧ h (h 46 0) (h 46 4) < 2147483648 := by omega) (kt : ¬ h (h 46 0) (h 46 4) = 59 → Wp mX6_step (kR fr M1 M2) Q (b1, b2) 258 [zR 46] [zR 46] 137 h) (kf : h (h 46 0) (h 46 4) = 59 → Wp mX6_step (kR fr M1 M2) Q (b1, b2) 254 [zR 46] [zR 46] 137 h) : Wp mX6_step (kR fr M1 M2) Q (b1, b2) 239 [zR 46] [] 137 h := by
  refine s_aload_n (x := 46) dX6_step_239 rfl ?_
  refine s_aload_n (x := 46) dX6_step_240 rfl ?_
  refine s_getR (c := 46) dX6_step_241 lX6_9 e46 rfl ?_
  refine s_aload_n (x := 46) dX6_step_244 rfl ?_
  refine s_get (c := 46) dX6_step_245 lX6_63 e46 (by decide) ?_
  refine s_bald (c := h 46 0) (i := h 46 4) dX6_step_248 c1 r1.1 r1.2 ?_
  refine s_bipush dX6_step_249 (by decide) ?_
  exact s_icmp_ne (tgt := 258) dX6_step_251 (by decide) r2 ⟨by decide, by decide⟩ kt kf
theorem bX6_step_254 {fr M1 M2 b1 b2 : Nat} {Q : RS → Nat → AH → Prop} {h : AH}   (kk : Wp mX6_step (kR fr M1 M2) Q (b1, b2) 259 [zR 46] [zI 3, zR 46] 137 h) : Wp mX6_step (kR fr M1 M2) Q (b1, b2) 254 [zR 46] [zR 46] 137 h := by
  refine s_iconst dX6_step_254 ?_
  exact s_goto (tgt := 259) dX6_step_255 (by decide) kk
theorem bX6_step_258 {fr M1 M2 b1 b2 : Nat} {Q : RS → Nat → AH → Prop} {h : AH}   (kk : Wp mX6_step (kR fr M1 M2) Q (b1, b2) 259 [zR 46] [zI 4, zR 46] 137 h) : Wp mX6_step (kR fr M1 M2) Q (b1, b2) 258 [zR 46] [zR 46] 137 h := by
  refine s_iconst dX6_step_258 ?_
  exact kk
theorem bX6_step_259 {fr M1 M2 b1 b2 : Nat} {Q : RS → Nat → AH → Prop} {h : AH} {s0 : Int}   (hq : Q (.inl none) 137 (up (up h 46 3 s0) 46 5 ((h 46 5) + 1))) : Wp mX6_step (kR fr M1 M2) Q (b1, b2) 259 [zR 46] [zI s0, zR 46] 137 h := by
  refine s_put (c := 46) dX6_step_259 lX6_56 e46 ?_
  refine s_aload_n (x := 46) dX6_step_262 rfl ?_
  refine s_dup dX6_step_263 rfl ?_
  refine s_get (c := 46) dX6_step_264 lX6_34 e46 (by decide) ?_
  refine s_iconst dX6_step_267 ?_
  refine s_iadd dX6_step_268 ?_
  refine s_put (c := 46) dX6_step_269 lX6_34 e46 ?_
  exact s_return dX6_step_272 rfl hq (fun z => by cases z)
theorem dX6_isLetter_0 : decode mX6_isLetter.cd 0 = .ok (.iload_n 0, 1) := by decide +kernel
theorem dX6_isLetter_1 : decode mX6_isLetter.cd 1 = .ok (.bipush 97, 2) := by decide +kernel
theorem dX6_isLetter_3 : decode mX6_isLetter.cd 3 = .ok (.if_icmp .lt 13, 3) := by decide +kernel
theorem dX6_isLetter_6 : decode mX6_isLetter.cd 6 = .ok (.iload_n 0, 1) := by decide +kernel
theorem dX6_isLetter_7 : decode mX6_isLetter.cd 7 = .ok (.bipush 122, 2) := by decide +kernel
theorem dX6_isLetter_9 : decode mX6_isLetter.cd 9 = .ok (.if_icmp .gt 7, 3) := by decide +kernel
theorem dX6_isLetter_12 : decode mX6_isLetter.cd 12 = .ok (.iconst 1, 1) := by decide +kernel
theorem dX6_isLetter_13 : decode mX6_isLetter.cd 13 = .ok (.goto 4, 3) := by decide +kernel
theorem dX6_isLetter_16 : decode mX6_isLetter.cd 16 = .ok (.iconst 0, 1) := by decide +kernel
theorem dX6_isLetter_17 : decode mX6_isLetter.cd 17 = .ok (.ireturn, 1) := by decide +kernel
theorem bX6_isLetter_0 {fr M1 M2 b1 b2 : Nat} {Q : RS → Nat → AH → Prop} {h : AH} {l0 : Int}  (r1 : -2147483648 ≤ l0 ∧ l0 < 2147483648 := by omega) (kt : l0 < 97 → Wp mX6_isLetter (kR fr M1 M2) Q (b1, b2) 16 [zI l0] [] 137 h) (kf : 97 ≤ l0 → Wp mX6_isLetter (kR fr M1 M2) Q (b1, b2) 6 [zI l0] [] 137 h) : Wp mX6_isLetter (kR fr M1 M2) Q (b1, b2) 0 [zI l0] [] 137 h := by
  refine s_iload_n (x := l0) dX6_isLetter_0 rfl ?_
  refine s_bipush dX6_isLetter_1 (by decide) ?_
  exact s_icmp_lt (tgt := 16) dX6_isLetter_3 (by decide) r1 ⟨by decide, by decide⟩ kt kf
theorem bX6_isLetter_6 {fr M1 M2 b1 b2 : Nat} {Q : RS → Nat → AH → Prop} {h : AH} {l0 : Int}  (r1 : -2147483648 ≤ l0 ∧ l0 < 2147483648 := by omega) (kt : 122 < l0 → Wp mX6_isLetter (kR fr M1 M2) Q (b1, b2) 16 [zI l0] [] 137 h) (kf : l0 ≤ 122 → Wp mX6_isLetter (kR fr M1 M2) Q (b1, b2) 12 [zI l0] [] 137 h) : Wp mX6_isLetter (kR fr M1 M2) Q (b1, b2) 6 [zI l0] [] 137 h := by
  refine s_iload_n (x := l0) dX6_isLetter_6 rfl ?_
  refine s_bipush dX6_isLetter_7 (by decide) ?_
  exact s_icmp_gt (tgt := 16) dX6_isLetter_9 (by decide) r1 ⟨by decide, by decide⟩ kt kf
theorem bX6_isLetter_12 {fr M1 M2 b1 b2 : Nat} {Q : RS → Nat → AH → Prop} {h : AH} {x0 : AV}   (kk : Wp mX6_isLetter (kR fr M1 M2) Q (b1, b2) 17 [none] [zI 1] 137 h) : Wp mX6_isLetter (kR fr M1 M2) Q (b1, b2) 12 [x0] [] 137 h := by
  refine s_fgt (fgt_n _ fgt_0) ?_
  refine s_iconst dX6_isLetter_12 ?_
  exact s_goto (tgt := 17) dX6_isLetter_13 (by decide) kk
theorem bX6_isLetter_16 {fr M1 M2 b1 b2 : Nat} {Q : RS → Nat → AH → Prop} {h : AH} {x0 : AV}   (kk : Wp mX6_isLetter (kR fr M1 M2) Q (b1, b2) 17 [none] [zI 0] 137 h) : Wp mX6_isLetter (kR fr M1 M2) Q (b1, b2) 16 [x0] [] 137 h := by
  refine s_fgt (fgt_n _ fgt_0) ?_
  refine s_iconst dX6_isLetter_16 ?_
  exact kk
theorem bX6_isLetter_17 {fr M1 M2 b1 b2 : Nat} {Q : RS → Nat → AH → Prop} {h : AH} {s0 : Int} {x0 : AV}  (r1 : s0 = 0 ∨ s0 = 1 := by omega) (hq : Q (.inl (some (zI s0))) 137 h) : Wp mX6_isLetter (kR fr M1 M2) Q (b1, b2) 17 [x0] [zI s0] 137 h := by
  refine s_fgt (fgt_n _ fgt_0) ?_
  exact s_ireturn dX6_isLetter_17 ⟨.boolean, rfl, bool_nar r1⟩ hq (fun z => by cases z)
theorem dX6_isDigit_0 : decode mX6_isDigit.cd 0 = .ok (.iload_n 0, 1) := by decide +kernel
theorem dX6_isDigit_1 : decode mX6_isDigit.cd 1 = .ok (.bipush 48, 2) := by decide +kernel
theorem dX6_isDigit_3 : decode mX6_isDigit.cd 3 = .ok (.if_icmp .lt 13, 3) := by decide +kernel
theorem dX6_isDigit_6 : decode mX6_isDigit.cd 6 = .ok (.iload_n 0, 1) := by decide +kernel
theorem dX6_isDigit_7 : decode mX6_isDigit.cd 7 = .ok (.bipush 57, 2) := by decide +kernel
theorem dX6_isDigit_9 : decode mX6_isDigit.cd 9 = .ok (.if_icmp .gt 7, 3) := by decide +kernel
theorem dX6_isDigit_12 : decode mX6_isDigit.cd 12 = .ok (.iconst 1, 1) := by decide +kernel
theorem dX6_isDigit_13 : decode mX6_isDigit.cd 13 = .ok (.goto 4, 3) := by decide +kernel
theorem dX6_isDigit_16 : decode mX6_isDigit.cd 16 = .ok (.iconst 0, 1) := by decide +kernel
theorem dX6_isDigit_17 : decode mX6_isDigit.cd 17 = .ok (.ireturn, 1) := by decide +kernel
theorem bX6_isDigit_0 {fr M1 M2 b1 b2 : Nat} {Q : RS → Nat → AH → Prop} {h : AH} {l0 : Int}  (r1 : -2147483648 ≤ l0 ∧ l0 < 2147483648 := by omega) (kt : l0 < 48 → Wp mX6_isDigit (kR fr M1 M2) Q (b1, b2) 16 [zI l0] [] 137 h) (kf : 48 ≤ l0 → Wp mX6_isDigit (kR fr M1 M2) Q (b1, b2) 6 [zI l0] [] 137 h) : Wp mX6_isDigit (kR fr M1 M2) Q (b1, b2) 0 [zI l0] [] 137 h := by
  refine s_iload_n (x := l0) dX6_isDigit_0 rfl ?_
  refine s_bipush dX6_isDigit_1 (by decide) ?_
  exact s_icmp_lt (tgt := 16) dX6_isDigit_3 (by decide) r1 ⟨by decide, by decide⟩ kt kf
theorem bX6_isDigit_6 {fr M1 M2 b1 b2 : Nat} {Q : RS → Nat → AH → Prop} {h : AH} {l0 : Int}  (r1 : -2147483648 ≤ l0 ∧ l0 < 2147483648 := by omega) (kt : 57 < l0 → Wp mX6_isDigit (kR fr M1 M2) Q (b1, b2) 16 [zI l0] [] 137 h) (kf : l0 ≤ 57 → Wp mX6_isDigit (kR fr M1 M2) Q (b1, b2) 12 [zI l0] [] 137 h) : Wp mX6_isDigit (kR fr M1 M2) Q (b1, b2) 6 [zI l0] [] 137 h := by
  refine s_iload_n (x := l0) dX6_isDigit_6 rfl ?_
  refine s_bipush dX6_isDigit_7 (by decide) ?_
  exact s_icmp_gt (tgt := 16) dX6_isDigit_9 (by decide) r1 ⟨by decide, by decide⟩ kt kf
theorem bX6_isDigit_12 {fr M1 M2 b1 b2 : Nat} {Q : RS → Nat → AH → Prop} {h : AH} {x0 : AV}   (kk : Wp mX6_isDigit (kR fr M1 M2) Q (b1, b2) 17 [none] [zI 1] 137 h) : Wp mX6_isDigit (kR fr M1 M2) Q (b1, b2) 12 [x0] [] 137 h := by
  refine s_fgt (fgt_n _ fgt_0) ?_
  refine s_iconst dX6_isDigit_12 ?_
  exact s_goto (tgt := 17) dX6_isDigit_13 (by decide) kk
theorem bX6_isDigit_16 {fr M1 M2 b1 b2 : Nat} {Q : RS → Nat → AH → Prop} {h : AH} {x0 : AV}   (kk : Wp mX6_isDigit (kR fr M1 M2) Q (b1, b2) 17 [none] [zI 0] 137 h) : Wp mX6_isDigit (kR fr M1 M2) Q (b1, b2) 16 [x0] [] 137 h := by
  refine s_fgt (fgt_n _ fgt_0) ?_
  refine s_iconst dX6_isDigit_16 ?_
  exact kk
theorem bX6_isDigit_17 {fr M1 M2 b1 b2 : Nat} {Q : RS → Nat → AH → Prop} {h : AH} {s0 : Int} {x0 : AV}  (r1 : s0 = 0 ∨ s0 = 1 := by omega) (hq : Q (.inl (some (zI s0))) 137 h) : Wp mX6_isDigit (kR fr M1 M2) Q (b1, b2) 17 [x0] [zI s0] 137 h := by
  refine s_fgt (fgt_n _ fgt_0) ?_
  exact s_ireturn dX6_isDigit_17 ⟨.boolean, rfl, bool_nar r1⟩ hq (fun z => by cases z)
theorem dX6_spells_0 : decode mX6_spells.cd 0 = .ok (.aload_n 0, 1) := by decide +kernel
theorem dX6_spells_1 : decode mX6_spells.cd 1 = .ok (.getfield 56, 3) := by decide +kernel
theorem dX6_spells_4 : decode mX6_spells.cd 4 = .ok (.iconst 1, 1) := by decide +kernel
theorem dX6_spells_5 : decode mX6_spells.cd 5 = .ok (.if_icmp .ne 19, 3) := by decide +kernel
theorem dX6_spells_8 : decode mX6_spells.cd 8 = .ok (.aload_n 0, 1) := by decide +kernel
theorem dX6_spells_9 : decode mX6_spells.cd 9 = .ok (.getfield 34, 3) := by decide +kernel
theorem dX6_spells_12 : decode mX6_spells.cd 12 = .ok (.aload_n 0, 1) := by decide +kernel
theorem dX6_spells_13 : decode mX6_spells.cd 13 = .ok (.getfield 63, 3) := by decide +kernel
theorem dX6_spells_16 : decode mX6_spells.cd 16 = .ok (.isub, 1) := by decide +kernel
theorem dX6_spells_17 : decode mX6_spells.cd 17 = .ok (.aload_n 1, 1) := by decide +kernel
theorem dX6_spells_18 : decode mX6_spells.cd 18 = .ok (.invokevirtual 76, 3) := by decide +kernel
theorem dX6_spells_21 : decode mX6_spells.cd 21 = .ok (.if_icmp .eq 5, 3) := by decide +kernel
theorem dX6_spells_24 : decode mX6_spells.cd 24 = .ok (.iconst 0, 1) := by decide +kernel
theorem dX6_spells_25 : decode mX6_spells.cd 25 = .ok (.ireturn, 1) := by decide +kernel
theorem dX6_spells_26 : decode mX6_spells.cd 26 = .ok (.iconst 0, 1) := by decide +kernel
theorem dX6_spells_27 : decode mX6_spells.cd 27 = .ok (.istore_n 2, 1) := by decide +kernel
theorem dX6_spells_28 : decode mX6_spells.cd 28 = .ok (.iload_n 2, 1) := by decide +kernel
theorem dX6_spells_29 : decode mX6_spells.cd 29 = .ok (.aload_n 1, 1) := by decide +kernel
theorem dX6_spells_30 : decode mX6_spells.cd 30 = .ok (.invokevirtual 76, 3) := by decide +kernel
theorem dX6_spells_33 : decode mX6_spells.cd 33 = .ok (.if_icmp .ge 30, 3) := by decide +kernel
theorem dX6_spells_36 : decode mX6_spells.cd 36 = .ok (.aload_n 0, 1) := by decide +kernel
theorem dX6_spells_37 : decode mX6_spells.cd 37 = .ok (.getfield 9, 3) := by decide +kernel
theorem dX6_spells_40 : decode mX6_spells.cd 40 = .ok (.aload_n 0, 1) := by decide +kernel
theorem dX6_spells_41 : decode mX6_spells.cd 41 = .ok (.getfield 63, 3) := by decide +kernel
theorem dX6_spells_44 : decode mX6_spells.cd 44 = .ok (.iload_n 2, 1) := by decide +kernel
theorem dX6_spells_45 : decode mX6_spells.cd 45 = .ok (.iadd, 1) := by decide +kernel
theorem dX6_spells_46 : decode mX6_spells.cd 46 = .ok (.baload, 1) := by decide +kernel
theorem dX6_spells_47 : decode mX6_spells.cd 47 = .ok (.aload_n 1, 1) := by decide +kernel
theorem dX6_spells_48 : decode mX6_spells.cd 48 = .ok (.iload_n 2, 1) := by decide +kernel
theorem dX6_spells_49 : decode mX6_spells.cd 49 = .ok (.invokevirtual 82, 3) := by decide +kernel
theorem dX6_spells_52 : decode mX6_spells.cd 52 = .ok (.if_icmp .eq 5, 3) := by decide +kernel
theorem dX6_spells_55 : decode mX6_spells.cd 55 = .ok (.iconst 0, 1) := by decide +kernel
theorem dX6_spells_56 : decode mX6_spells.cd 56 = .ok (.ireturn, 1) := by decide +kernel
theorem dX6_spells_57 : decode mX6_spells.cd 57 = .ok (.iinc 2 1, 3) := by decide +kernel
theorem dX6_spells_60 : decode mX6_spells.cd 60 = .ok (.goto (-32), 3) := by decide +kernel
theorem dX6_spells_63 : decode mX6_spells.cd 63 = .ok (.iconst 1, 1) := by decide +kernel
theorem dX6_spells_64 : decode mX6_spells.cd 64 = .ok (.ireturn, 1) := by decide +kernel
theorem bX6_spells_0 {fr M1 M2 b1 b2 : Nat} {Q : RS → Nat → AH → Prop} {h : AH} {l1 : Int} {x2 : AV}  (r1 : -2147483648 ≤ h 46 3 ∧ h 46 3 < 2147483648 := by omega) (kt : ¬ h 46 3 = 1 → Wp mX6_spells (kR fr M1 M2) Q (b1, b2) 24 [zR 46, zR l1, none] [] 137 h) (kf : h 46 3 = 1 → Wp mX6_spells (kR fr M1 M2) Q (b1, b2) 8 [zR 46, zR l1, none] [] 137 h) : Wp mX6_spells (kR fr M1 M2) Q (b1, b2) 0 [zR 46, zR l1, x2] [] 137 h := by
  refine s_fgt (fgt_c (fgt_c (fgt_n _ fgt_0))) ?_
  refine s_aload_n (x := 46) dX6_spells_0 rfl ?_
  refine s_get (c := 46) dX6_spells_1 lX6_56 e46 (by decide) ?_
  refine s_iconst dX6_spells_4 ?_
  exact s_icmp_ne (tgt := 24) dX6_spells_5 (by decide) r1 ⟨by decide, by decide⟩ kt kf
theorem bX6_spells_21 {fr M1 M2 b1 b2 : Nat} {Q : RS → Nat → AH → Prop} {h : AH} {l1 s1 s0 : Int} {x2 : AV}  (r1 : -2147483648 ≤ s1 ∧ s1 < 2147483648 := by omega) (r2 : -2147483648 ≤ s0 ∧ s0 < 2147483648 := by omega) (kt : s1 = s0 → Wp mX6_spells (kR fr M1 M2) Q (b1, b2) 26 [zR 46, zR l1, none] [] 137 h) (kf : ¬ s1 = s0 → Wp mX6_spells (kR fr M1 M2) Q (b1, b2) 24 [zR 46, zR l1, none] [] 137 h) : Wp mX6_spells (kR fr M1 M2) Q (b1, b2) 21 [zR 46, zR l1, x2] [zI s0, zI s1] 137 h := by
  refine s_fgt (fgt_c (fgt_c (fgt_n _ fgt_0))) ?_
  exact s_icmp_eq (tgt := 26) dX6_spells_21 (by decide) r1 r2 kt kf
theorem bX6_spells_24 {fr M1 M2 b1 b2 : Nat} {Q : RS → Nat → AH → Prop} {h : AH} {x0 x1 x2 : AV}   (hq : Q (.inl (some (zI 0))) 137 h) : Wp mX6_spells (kR fr M1 M2) Q (b1, b2) 24 [x0, x1, x2] [] 137 h := by
  refine s_fgt (fgt_n _ (fgt_n _ (fgt_n _ fgt_0))) ?_
  refine s_iconst dX6_spells_24 ?_
  exact s_ireturn dX6_spells_25 ⟨.boolean, rfl, by decide⟩ hq (fun z => by cases z)
theorem bX6_spells_26 {fr M1 M2 b1 b2 : Nat} {Q : RS → Nat → AH → Prop} {h : AH} {l1 : Int} {x2 : AV}   (kk : Wp mX6_spells (kR fr M1 M2) Q (b1, b2) 28 [zR 46, zR l1, zI 0] [] 137 h) : Wp mX6_spells (kR fr M1 M2) Q (b1, b2) 26 [zR 46, zR l1, x2] [] 137 h := by
  refine s_fgt (fgt_c (fgt_c (fgt_n _ fgt_0))) ?_
  refine s_iconst dX6_spells_26 ?_
  refine s_istore_n dX6_spells_27 rfl (by decide) ?_
  exact kk
theorem bX6_spells_33 {fr M1 M2 b1 b2 : Nat} {Q : RS → Nat → AH → Prop} {h : AH} {l1 l2 s1 s0 : Int}  (r1 : -2147483648 ≤ s1 ∧ s1 < 2147483648 := by omega) (r2 : -2147483648 ≤ s0 ∧ s0 < 2147483648 := by omega) (kt : s0 ≤ s1 → Wp mX6_spells (kR fr M1 M2) Q (b1, b2) 63 [zR 46, zR l1, zI l2] [] 137 h) (kf : s1 < s0 → Wp mX6_spells (kR fr M1 M2) Q (b1, b2) 36 [zR 46, zR l1, zI l2] [] 137 h) : Wp mX6_spells (kR fr M1 M2) Q (b1, b2) 33 [zR 46, zR l1, zI l2] [zI s0, zI s1] 137 h := by
  exact s_icmp_ge (tgt := 63) dX6_spells_33 (by decide) r1 r2 kt kf
theorem bX6_spells_52 {fr M1 M2 b1 b2 : Nat} {Q : RS → Nat → AH → Prop} {h : AH} {l1 l2 s1 s0 : Int}  (r1 : -2147483648 ≤ s1 ∧ s1 < 2147483648 := by omega) (r2 : -2147483648 ≤ s0 ∧ s0 < 2147483648 := by omega) (kt : s1 = s0 → Wp mX6_spells (kR fr M1 M2) Q (b1, b2) 57 [zR 46, zR l1, zI l2] [] 137 h) (kf : ¬ s1 = s0 → Wp mX6_spells (kR fr M1 M2) Q (b1, b2) 55 [zR 46, zR l1, zI l2] [] 137 h) : Wp mX6_spells (kR fr M1 M2) Q (b1, b2) 52 [zR 46, zR l1, zI l2] [zI s0, zI s1] 137 h := by
  exact s_icmp_eq (tgt := 57) dX6_spells_52 (by decide) r1 r2 kt kf
theorem bX6_spells_55 {fr M1 M2 b1 b2 : Nat} {Q : RS → Nat → AH → Prop} {h : AH} {x0 x1 x2 : AV}   (hq : Q (.inl (some (zI 0))) 137 h) : Wp mX6_spells (kR fr M1 M2) Q (b1, b2) 55 [x0, x1, x2] [] 137 h := by
  refine s_fgt (fgt_n _ (fgt_n _ (fgt_n _ fgt_0))) ?_
  refine s_iconst dX6_spells_55 ?_
  exact s_ireturn dX6_spells_56 ⟨.boolean, rfl, by decide⟩ hq (fun z => by cases z)
theorem bX6_spells_57 {fr M1 M2 b1 b2 : Nat} {Q : RS → Nat → AH → Prop} {h : AH} {l1 l2 : Int}   (kk : Wp mX6_spells (kR fr M1 M2) Q (b1, b2) 28 [zR 46, zR l1, zI (l2 + 1)] [] 137 h) : Wp mX6_spells (kR fr M1 M2) Q (b1, b2) 57 [zR 46, zR l1, zI l2] [] 137 h := by
  refine s_iinc (x := l2) dX6_spells_57 rfl rfl (by decide) ?_
  exact s_goto (tgt := 28) dX6_spells_60 (by decide) kk
theorem bX6_spells_63 {fr M1 M2 b1 b2 : Nat} {Q : RS → Nat → AH → Prop} {h : AH} {x0 x1 x2 : AV}   (hq : Q (.inl (some (zI 1))) 137 h) : Wp mX6_spells (kR fr M1 M2) Q (b1, b2) 63 [x0, x1, x2] [] 137 h := by
  refine s_fgt (fgt_n _ (fgt_n _ (fgt_n _ fgt_0))) ?_
  refine s_iconst dX6_spells_63 ?_
  exact s_ireturn dX6_spells_64 ⟨.boolean, rfl, by decide⟩ hq (fun z => by cases z)
theorem dX6_isNumber_0 : decode mX6_isNumber.cd 0 = .ok (.aload_n 0, 1) := by decide +kernel
theorem dX6_isNumber_1 : decode mX6_isNumber.cd 1 = .ok (.getfield 56, 3) := by decide +kernel
theorem dX6_isNumber_4 : decode mX6_isNumber.cd 4 = .ok (.iconst 2, 1) := by decide +kernel
theorem dX6_isNumber_5 : decode mX6_isNumber.cd 5 = .ok (.if_icmp .eq 9, 3) := by decide +kernel
theorem dX6_isNumber_8 : decode mX6_isNumber.cd 8 = .ok (.aload_n 0, 1) := by decide +kernel
theorem dX6_isNumber_9 : decode mX6_isNumber.cd 9 = .ok (.iconst 1, 1) := by decide +kernel
theorem dX6_isNumber_10 : decode mX6_isNumber.cd 10 = .ok (.invokevirtual 86, 3) := by decide +kernel
theorem dX6_isNumber_13 : decode mX6_isNumber.cd 13 = .ok (.ireturn, 1) := by decide +kernel
theorem dX6_isNumber_14 : decode mX6_isNumber.cd 14 = .ok (.aload_n 0, 1) := by decide +kernel
theorem dX6_isNumber_15 : decode mX6_isNumber.cd 15 = .ok (.getfield 34, 3) := by decide +kernel
theorem dX6_isNumber_18 : decode mX6_isNumber.cd 18 = .ok (.aload_n 0, 1) := by decide +kernel
theorem dX6_isNumber_19 : decode mX6_isNumber.cd 19 = .ok (.getfield 63, 3) := by decide +kernel
theorem dX6_isNumber_22 : decode mX6_isNumber.cd 22 = .ok (.isub, 1) := by decide +kernel
theorem dX6_isNumber_23 : decode mX6_isNumber.cd 23 = .ok (.iconst 4, 1) := by decide +kernel
theorem dX6_isNumber_24 : decode mX6_isNumber.cd 24 = .ok (.if_icmp .gt 19, 3) := by decide +kernel
theorem dX6_isNumber_27 : decode mX6_isNumber.cd 27 = .ok (.aload_n 0, 1) := by decide +kernel
theorem dX6_isNumber_28 : decode mX6_isNumber.cd 28 = .ok (.getfield 66, 3) := by decide +kernel
theorem dX6_isNumber_31 : decode mX6_isNumber.cd 31 = .ok (.iload_n 1, 1) := by decide +kernel
theorem dX6_isNumber_32 : decode mX6_isNumber.cd 32 = .ok (.if_icmp .lt 11, 3) := by decide +kernel
theorem dX6_isNumber_35 : decode mX6_isNumber.cd 35 = .ok (.aload_n 0, 1) := by decide +kernel
theorem dX6_isNumber_36 : decode mX6_isNumber.cd 36 = .ok (.getfield 66, 3) := by decide +kernel
theorem dX6_isNumber_39 : decode mX6_isNumber.cd 39 = .ok (.iload_n 2, 1) := by decide +kernel
theorem dX6_isNumber_40 : decode mX6_isNumber.cd 40 = .ok (.if_icmp .le 9, 3) := by decide +kernel
theorem dX6_isNumber_43 : decode mX6_isNumber.cd 43 = .ok (.aload_n 0, 1) := by decide +kernel
theorem dX6_isNumber_44 : decode mX6_isNumber.cd 44 = .ok (.iconst 2, 1) := by decide +kernel
theorem dX6_isNumber_45 : decode mX6_isNumber.cd 45 = .ok (.invokevirtual 86, 3) := by decide +kernel
theorem dX6_isNumber_48 : decode mX6_isNumber.cd 48 = .ok (.ireturn, 1) := by decide +kernel
theorem dX6_isNumber_49 : decode mX6_isNumber.cd 49 = .ok (.iconst 1, 1) := by decide +kernel
theorem dX6_isNumber_50 : decode mX6_isNumber.cd 50 = .ok (.ireturn, 1) := by decide +kernel
theorem bX6_isNumber_0 {fr M1 M2 b1 b2 : Nat} {Q : RS → Nat → AH → Prop} {h : AH} {l1 l2 : Int}  (r1 : -2147483648 ≤ h 46 3 ∧ h 46 3 < 2147483648 := by omega) (kt : h 46 3 = 2 → Wp mX6_isNumber (kR fr M1 M2) Q (b1, b2) 14 [zR 46, zI l1, zI l2] [] 137 h) (kf : ¬ h 46 3 = 2 → Wp mX6_isNumber (kR fr M1 M2) Q (b1, b2) 8 [zR 46, zI l1, zI l2] [] 137 h) : Wp mX6_isNumber (kR fr M1 M2) Q (b1, b2) 0 [zR 46, zI l1, zI l2] [] 137 h := by
  refine s_aload_n (x := 46) dX6_isNumber_0 rfl ?_
  refine s_get (c := 46) dX6_isNumber_1 lX6_56 e46 (by decide) ?_
  refine s_iconst dX6_isNumber_4 ?_
  exact s_icmp_eq (tgt := 14) dX6_isNumber_5 (by decide) r1 ⟨by decide, by decide⟩ kt kf
theorem bX6_isNumber_8 {fr M1 M2 b1 b2 : Nat} {Q : RS → Nat → AH → Prop} {h : AH} {x1 x2 : AV} {R : Int → AH → Prop}   (hS : Sp mX6_fail true (fr - 1) 0 0 [zR 46, zI 1] 137 h (rI R)) (hf : 1 ≤ fr := by omega) (kk : ∀ (x : Int) (h' : AH), R x h' → Wp mX6_isNumber (kR fr M1 M2) Q (b1, b2) 13 [zR 46, none, none] [zI x] 137 h') : Wp mX6_isNumber (kR fr M1 M2) Q (b1, b2) 8 [zR 46, x1, x2] [] 137 h := by
  refine s_fgt (fgt_c (fgt_n _ (fgt_n _ fgt_0))) ?_
  refine s_aload_n (x := 46) dX6_isNumber_8 rfl ?_
  refine s_iconst dX6_isNumber_9 ?_
  exact s_callV (as := [zI 1]) (st := []) (o := 46) dX6_isNumber_10 kX6_86 rfl ⟨6, 12, TX6, e46, rfl, by decide⟩ rfl rfl (Nat.le_of_ble_eq_true rfl) hS (show fr - 1 + 1 ≤ fr by omega) (Nat.zero_le _) (Nat.zero_le _) (fun v n' h' hP _ => by obtain ⟨x, e, rfl, hR⟩ := hP; cases e; exact kk x h' hR) (fun E n' h' _ z => (rI_nt _ _ _ z).elim)
theorem bX6_isNumber_13 {fr M1 M2 b1 b2 : Nat} {Q : RS → Nat → AH → Prop} {h : AH} {s0 : Int} {x0 x1 x2 : AV}  (r1 : s0 = 0 ∨ s0 = 1 := by omega) (hq : Q (.inl (some (zI s0))) 137 h) : Wp mX6_isNumber (kR fr M1 M2) Q (b1, b2) 13 [x0, x1, x2] [zI s0] 137 h := by
  refine s_fgt (fgt_n _ (fgt_n _ (fgt_n _ fgt_0))) ?_
  exact s_ireturn dX6_isNumber_13 ⟨.boolean, rfl, bool_nar r1⟩ hq (fun z => by cases z)
theorem bX6_isNumber_14 {fr M1 M2 b1 b2 : Nat} {Q : RS → Nat → AH → Prop} {h : AH} {l1 l2 : Int}  (r1 : -2147483648 ≤ (h 46 5) - (h 46 4) ∧ (h 46 5) - (h 46 4) < 2147483648 := by omega) (kt : 4 < (h 46 5) - (h 46 4) → Wp mX6_isNumber (kR fr M1 M2) Q (b1, b2) 43 [zR 46, zI l1, zI l2] [] 137 h) (kf : (h 46 5) - (h 46 4) ≤ 4 → Wp mX6_isNumber (kR fr M1 M2) Q (b1, b2) 27 [zR 46, zI l1, zI l2] [] 137 h) : Wp mX6_isNumber (kR fr M1 M2) Q (b1, b2) 14 [zR 46, zI l1, zI l2] [] 137 h := by
  refine s_aload_n (x := 46) dX6_isNumber_14 rfl ?_
  refine s_get (c := 46) dX6_isNumber_15 lX6_34 e46 (by decide) ?_
  refine s_aload_n (x := 46) dX6_isNumber_18 rfl ?_
  refine s_get (c := 46) dX6_isNumber_19 lX6_63 e46 (by decide) ?_
  refine s_isub dX6_isNumber_22 ?_
  refine s_iconst dX6_isNumber_23 ?_
  exact s_icmp_gt (tgt := 43) dX6_isNumber_24 (by decide) r1 ⟨by decide, by decide⟩ kt kf
theorem bX6_isNumber_27 {fr M1 M2 b1 b2 : Nat} {Q : RS → Nat → AH → Prop} {h : AH} {l1 l2 : Int}  (r1 : -2147483648 ≤ h 46 6 ∧ h 46 6 < 2147483648 := by omega) (r2 : -2147483648 ≤ l1 ∧ l1 < 2147483648 := by omega) (kt : h 46 6 < l1 → Wp mX6_isNumber (kR fr M1 M2) Q (b1, b2) 43 [zR 46, zI l1, zI l2] [] 137 h) (kf : l1 ≤ h 46 6 → Wp mX6_isNumber (kR fr M1 M2) Q (b1, b2) 35 [zR 46, zI l1, zI l2] [] 137 h) : Wp mX6_isNumber (kR fr M1 M2) Q (b1, b2) 27 [zR 46, zI l1, zI l2] [] 137 h := by
  refine s_aload_n (x := 46) dX6_isNumber_27 rfl ?_
  refine s_get (c := 46) dX6_isNumber_28 lX6_66 e46 (by decide) ?_
  refine s_iload_n (x := l1) dX6_isNumber_31 rfl ?_
  exact s_icmp_lt (tgt := 43) dX6_isNumber_32 (by decide) r1 r2 kt kf
theorem bX6_isNumber_35 {fr M1 M2 b1 b2 : Nat} {Q : RS → Nat → AH → Prop} {h : AH} {l2 : Int} {x1 : AV}  (r1 : -2147483648 ≤ h 46 6 ∧ h 46 6 < 2147483648 := by omega) (r2 : -2147483648 ≤ l2 ∧ l2 < 2147483648 := by omega) (kt : h 46 6 ≤ l2 → Wp mX6_isNumber (kR fr M1 M2) Q (b1, b2) 49 [zR 46, none, zI l2] [] 137 h) (kf : l2 < h 46 6 → Wp mX6_isNumber (kR fr M1 M2) Q (b1, b2) 43 [zR 46, none, zI l2] [] 137 h) : Wp mX6_isNumber (kR fr M1 M2) Q (b1, b2) 35 [zR 46, x1, zI l2] [] 137 h := by
  refine s_fgt (fgt_c (fgt_n _ (fgt_c fgt_0))) ?_
  refine s_aload_n (x := 46) dX6_isNumber_35 rfl ?_
  refine s_get (c := 46) dX6_isNumber_36 lX6_66 e46 (by decide) ?_
  refine s_iload_n (x := l2) dX6_isNumber_39 rfl ?_
  exact s_icmp_le (tgt := 49) dX6_isNumber_40 (by decide) r1 r2 kt kf
theorem bX6_isNumber_43 {fr M1 M2 b1 b2 : Nat} {Q : RS → Nat → AH → Prop} {h : AH} {x1 x2 : AV} {R : Int → AH → Prop}   (hS : Sp mX6_fail true (fr - 1) 0 0 [zR 46, zI 2] 137 h (rI R)) (hf : 1 ≤ fr := by omega) (kk : ∀ (x : Int) (h' : AH), R x h' → Wp mX6_isNumber (kR fr M1 M2) Q (b1, b2) 48 [zR 46, none, none] [zI x] 137 h') : Wp mX6_isNumber (kR fr M1 M2) Q (b1, b2) 43 [zR 46, x1, x2] [] 137 h := by
  refine s_fgt (fgt_c (fgt_n _ (fgt_n _ fgt_0))) ?_
  refine s_aload_n (x := 46) dX6_isNumber_43 rfl ?_
  refine s_iconst dX6_isNumber_44 ?_
  exact s_callV (as := [zI 2]) (st := []) (o := 46) dX6_isNumber_45 kX6_86 rfl ⟨6, 12, TX6, e46, rfl, by decide⟩ rfl rfl (Nat.le_of_ble_eq_true rfl) hS (show fr - 1 + 1 ≤ fr by omega) (Nat.zero_le _) (Nat.zero_le _) (fun v n' h' hP _ => by obtain ⟨x, e, rfl, hR⟩ := hP; cases e; exact kk x h' hR) (fun E n' h' _ z => (rI_nt _ _ _ z).elim)
theorem bX6_isNumber_48 {fr M1 M2 b1 b2 : Nat} {Q : RS → Nat → AH → Prop} {h : AH} {s0 : Int} {x0 x1 x2 : AV}  (r1 : s0 = 0 ∨ s0 = 1 := by omega) (hq : Q (.inl (some (zI s0))) 137 h) : Wp mX6_isNumber (kR fr M1 M2) Q (b1, b2) 48 [x0, x1, x2] [zI s0] 137 h := by
  refine s_fgt (fgt_n _ (fgt_n _ (fgt_n _ fgt_0))) ?_
  exact s_ireturn dX6_isNumber_48 ⟨.boolean, rfl, bool_nar r1⟩ hq (fun z => by cases z)
theorem bX6_isNumber_49 {fr M1 M2 b1 b2 : Nat} {Q : RS → Nat → AH → Prop} {h : AH} {x0 x1 x2 : AV}   (hq : Q (.inl (some (zI 1))) 137 h) : Wp mX6_isNumber (kR fr M1 M2) Q (b1, b2) 49 [x0, x1, x2] [] 137 h := by
  refine s_fgt (fgt_n _ (fgt_n _ (fgt_n _ fgt_0))) ?_
  refine s_iconst dX6_isNumber_49 ?_
  exact s_ireturn dX6_isNumber_50 ⟨.boolean, rfl, by decide⟩ hq (fun z => by cases z)
theorem dX6_isToldSound_0 : decode mX6_isToldSound.cd 0 = .ok (.aload_n 0, 1) := by decide +kernel
theorem dX6_isToldSound_1 : decode mX6_isToldSound.cd 1 = .ok (.iconst 0, 1) := by decide +kernel
theorem dX6_isToldSound_2 : decode mX6_isToldSound.cd 2 = .ok (.sipush 9999, 3) := by decide +kernel
theorem dX6_isToldSound_5 : decode mX6_isToldSound.cd 5 = .ok (.invokevirtual 90, 3) := by decide +kernel
theorem dX6_isToldSound_8 : decode mX6_isToldSound.cd 8 = .ok (.ifCond .ne 5, 3) := by decide +kernel
theorem dX6_isToldSound_11 : decode mX6_isToldSound.cd 11 = .ok (.iconst 0, 1) := by decide +kernel
theorem dX6_isToldSound_12 : decode mX6_isToldSound.cd 12 = .ok (.ireturn, 1) := by decide +kernel
theorem dX6_isToldSound_13 : decode mX6_isToldSound.cd 13 = .ok (.aload_n 0, 1) := by decide +kernel
theorem dX6_isToldSound_14 : decode mX6_isToldSound.cd 14 = .ok (.getfield 66, 3) := by decide +kernel
theorem dX6_isToldSound_17 : decode mX6_isToldSound.cd 17 = .ok (.aload_n 0, 1) := by decide +kernel
theorem dX6_isToldSound_18 : decode mX6_isToldSound.cd 18 = .ok (.getfield 25, 3) := by decide +kernel
theorem dX6_isToldSound_21 : decode mX6_isToldSound.cd 21 = .ok (.getfield 94, 3) := by decide +kernel
theorem dX6_isToldSound_24 : decode mX6_isToldSound.cd 24 = .ok (.if_icmp .lt 11, 3) := by decide +kernel
theorem dX6_isToldSound_27 : decode mX6_isToldSound.cd 27 = .ok (.aload_n 0, 1) := by decide +kernel
theorem dX6_isToldSound_28 : decode mX6_isToldSound.cd 28 = .ok (.iconst 3, 1) := by decide +kernel
theorem dX6_isToldSound_29 : decode mX6_isToldSound.cd 29 = .ok (.invokevirtual 86, 3) := by decide +kernel
theorem dX6_isToldSound_32 : decode mX6_isToldSound.cd 32 = .ok (.ifCond .eq 7, 3) := by decide +kernel
theorem dX6_isToldSound_35 : decode mX6_isToldSound.cd 35 = .ok (.iconst 1, 1) := by decide +kernel
theorem dX6_isToldSound_36 : decode mX6_isToldSound.cd 36 = .ok (.goto 4, 3) := by decide +kernel
theorem dX6_isToldSound_39 : decode mX6_isToldSound.cd 39 = .ok (.iconst 0, 1) := by decide +kernel
theorem dX6_isToldSound_40 : decode mX6_isToldSound.cd 40 = .ok (.ireturn, 1) := by decide +kernel
theorem bX6_isToldSound_0 {fr M1 M2 b1 b2 : Nat} {Q : RS → Nat → AH → Prop} {h : AH} {R : Int → AH → Prop}   (hS : Sp mX6_isNumber true (fr - 1) 0 0 [zR 46, zI 0, zI 9999] 137 h (rI R)) (hf : 1 ≤ fr := by omega) (kk : ∀ (x : Int) (h' : AH), R x h' → Wp mX6_isToldSound (kR fr M1 M2) Q (b1, b2) 8 [zR 46] [zI x] 137 h') : Wp mX6_isToldSound (kR fr M1 M2) Q (b1, b2) 0 [zR 46] [] 137 h := by
  refine s_aload_n (x := 46) dX6_isToldSound_0 rfl ?_
  refine s_iconst dX6_isToldSound_1 ?_
  refine s_sipush dX6_isToldSound_2 (by decide) ?_
  exact s_callV (as := [zI 0, zI 9999]) (st := []) (o := 46) dX6_isToldSound_5 kX6_90 rfl ⟨6, 12, TX6, e46, rfl, by decide⟩ rfl rfl (Nat.le_of_ble_eq_true rfl) hS (show fr - 1 + 1 ≤ fr by omega) (Nat.zero_le _) (Nat.zero_le _) (fun v n' h' hP _ => by obtain ⟨x, e, rfl, hR⟩ := hP; cases e; exact kk x h' hR) (fun E n' h' _ z => (rI_nt _ _ _ z).elim)
theorem bX6_isToldSound_8 {fr M1 M2 b1 b2 : Nat} {Q : RS → Nat → AH → Prop} {h : AH} {s0 : Int}  (r1 : -2147483648 ≤ s0 ∧ s0 < 2147483648 := by omega) (kt : ¬ s0 = 0 → Wp mX6_isToldSound (kR fr M1 M2) Q (b1, b2) 13 [zR 46] [] 137 h) (kf : s0 = 0 → Wp mX6_isToldSound (kR fr M1 M2) Q (b1, b2) 11 [zR 46] [] 137 h) : Wp mX6_isToldSound (kR fr M1 M2) Q (b1, b2) 8 [zR 46] [zI s0] 137 h := by
  exact s_if_ne (tgt := 13) dX6_isToldSound_8 (by decide) r1 kt kf
theorem bX6_isToldSound_11 {fr M1 M2 b1 b2 : Nat} {Q : RS → Nat → AH → Prop} {h : AH} {x0 : AV}   (hq : Q (.inl (some (zI 0))) 137 h) : Wp mX6_isToldSound (kR fr M1 M2) Q (b1, b2) 11 [x0] [] 137 h := by
  refine s_fgt (fgt_n _ fgt_0) ?_
  refine s_iconst dX6_isToldSound_11 ?_
  exact s_ireturn dX6_isToldSound_12 ⟨.boolean, rfl, by decide⟩ hq (fun z => by cases z)
theorem bX6_isToldSound_13 {fr M1 M2 b1 b2 : Nat} {Q : RS → Nat → AH → Prop} {h : AH} (c1 : cel 137 (h 46 2) (2, 21) := by first | assumption | omega) (r1 : -2147483648 ≤ h 46 6 ∧ h 46 6 < 2147483648 := by omega) (r2 : -2147483648 ≤ h (h 46 2) 0 ∧ h (h 46 2) 0 < 2147483648 := by omega) (kt : h 46 6 < h (h 46 2) 0 → Wp mX6_isToldSound (kR fr M1 M2) Q (b1, b2) 35 [zR 46] [] 137 h) (kf : h (h 46 2) 0 ≤ h 46 6 → Wp mX6_isToldSound (kR fr M1 M2) Q (b1, b2) 27 [zR 46] [] 137 h) : Wp mX6_isToldSound (kR fr M1 M2) Q (b1, b2) 13 [zR 46] [] 137 h := by
  refine s_aload_n (x := 46) dX6_isToldSound_13 rfl ?_
  refine s_get (c := 46) dX6_isToldSound_14 lX6_66 e46 (by decide) ?_
  refine s_aload_n (x := 46) dX6_isToldSound_17 rfl ?_
  refine s_getR (c := 46) dX6_isToldSound_18 lX6_25 e46 rfl ?_
  refine s_get (c := h 46 2) dX6_isToldSound_21 lX6_94 c1 (by decide) ?_
  exact s_icmp_lt (tgt := 35) dX6_isToldSound_24 (by decide) r1 r2 kt kf
theorem bX6_isToldSound_27 {fr M1 M2 b1 b2 : Nat} {Q : RS → Nat → AH → Prop} {h : AH} {R : Int → AH → Prop}   (hS : Sp mX6_fail true (fr - 1) 0 0 [zR 46, zI 3] 137 h (rI R)) (hf : 1 ≤ fr := by omega) (kk : ∀ (x : Int) (h' : AH), R x h' → Wp mX6_isToldSound (kR fr M1 M2) Q (b1, b2) 32 [zR 46] [zI x] 137 h') : Wp mX6_isToldSound (kR fr M1 M2) Q (b1, b2) 27 [zR 46] [] 137 h := by
  refine s_aload_n (x := 46) dX6_isToldSound_27 rfl ?_
  refine s_iconst dX6_isToldSound_28 ?_
  exact s_callV (as := [zI 3]) (st := []) (o := 46) dX6_isToldSound_29 kX6_86 rfl ⟨6, 12, TX6, e46, rfl, by decide⟩ rfl rfl (Nat.le_of_ble_eq_true rfl) hS (show fr - 1 + 1 ≤ fr by omega) (Nat.zero_le _) (Nat.zero_le _) (fun v n' h' hP _ => by obtain ⟨x, e, rfl, hR⟩ := hP; cases e; exact kk x h' hR) (fun E n' h' _ z => (rI_nt _ _ _ z).elim)
theorem bX6_isToldSound_32 {fr M1 M2 b1 b2 : Nat} {Q : RS → Nat → AH → Prop} {h : AH} {s0 : Int} {x0 : AV}  (r1 : -2147483648 ≤ s0 ∧ s0 < 2147483648 := by omega) (kt : s0 = 0 → Wp mX6_isToldSound (kR fr M1 M2) Q (b1, b2) 39 [none] [] 137 h) (kf : ¬ s0 = 0 → Wp mX6_isToldSound (kR fr M1 M2) Q (b1, b2) 35 [none] [] 137 h) : Wp mX6_isToldSound (kR fr M1 M2) Q (b1, b2) 32 [x0] [zI s0] 137 h := by
  refine s_fgt (fgt_n _ fgt_0) ?_
  exact s_if_eq (tgt := 39) dX6_isToldSound_32 (by decide) r1 kt kf
theorem bX6_isToldSound_35 {fr M1 M2 b1 b2 : Nat} {Q : RS → Nat → AH → Prop} {h : AH} {x0 : AV}   (kk : Wp mX6_isToldSound (kR fr M1 M2) Q (b1, b2) 40 [none] [zI 1] 137 h) : Wp mX6_isToldSound (kR fr M1 M2) Q (b1, b2) 35 [x0] [] 137 h := by
  refine s_fgt (fgt_n _ fgt_0) ?_
  refine s_iconst dX6_isToldSound_35 ?_
  exact s_goto (tgt := 40) dX6_isToldSound_36 (by decide) kk
theorem bX6_isToldSound_39 {fr M1 M2 b1 b2 : Nat} {Q : RS → Nat → AH → Prop} {h : AH} {x0 : AV}   (kk : Wp mX6_isToldSound (kR fr M1 M2) Q (b1, b2) 40 [none] [zI 0] 137 h) : Wp mX6_isToldSound (kR fr M1 M2) Q (b1, b2) 39 [x0] [] 137 h := by
  refine s_fgt (fgt_n _ fgt_0) ?_
  refine s_iconst dX6_isToldSound_39 ?_
  exact kk
theorem bX6_isToldSound_40 {fr M1 M2 b1 b2 : Nat} {Q : RS → Nat → AH → Prop} {h : AH} {s0 : Int} {x0 : AV}  (r1 : s0 = 0 ∨ s0 = 1 := by omega) (hq : Q (.inl (some (zI s0))) 137 h) : Wp mX6_isToldSound (kR fr M1 M2) Q (b1, b2) 40 [x0] [zI s0] 137 h := by
  refine s_fgt (fgt_n _ fgt_0) ?_
  exact s_ireturn dX6_isToldSound_40 ⟨.boolean, rfl, bool_nar r1⟩ hq (fun z => by cases z)
theorem dX6_readLine_0 : decode mX6_readLine.cd 0 = .ok (.aload_n 0, 1) := by decide +kernel
theorem dX6_readLine_1 : decode mX6_readLine.cd 1 = .ok (.ldc 97, 2) := by decide +kernel
theorem dX6_readLine_3 : decode mX6_readLine.cd 3 = .ok (.invokevirtual 99, 3) := by decide +kernel
theorem dX6_readLine_6 : decode mX6_readLine.cd 6 = .ok (.ifCond .eq 8, 3) := by decide +kernel
theorem dX6_readLine_9 : decode mX6_readLine.cd 9 = .ok (.aload_n 0, 1) := by decide +kernel
theorem dX6_readLine_10 : decode mX6_readLine.cd 10 = .ok (.invokevirtual 103, 3) := by decide +kernel
theorem dX6_readLine_13 : decode mX6_readLine.cd 13 = .ok (.ireturn, 1) := by decide +kernel
theorem dX6_readLine_14 : decode mX6_readLine.cd 14 = .ok (.aload_n 0, 1) := by decide +kernel
theorem dX6_readLine_15 : decode mX6_readLine.cd 15 = .ok (.ldc 106, 2) := by decide +kernel
theorem dX6_readLine_17 : decode mX6_readLine.cd 17 = .ok (.invokevirtual 99, 3) := by decide +kernel
theorem dX6_readLine_20 : decode mX6_readLine.cd 20 = .ok (.ifCond .eq 8, 3) := by decide +kernel
theorem dX6_readLine_23 : decode mX6_readLine.cd 23 = .ok (.aload_n 0, 1) := by decide +kernel
theorem dX6_readLine_24 : decode mX6_readLine.cd 24 = .ok (.invokevirtual 108, 3) := by decide +kernel
theorem dX6_readLine_27 : decode mX6_readLine.cd 27 = .ok (.ireturn, 1) := by decide +kernel
theorem dX6_readLine_28 : decode mX6_readLine.cd 28 = .ok (.aload_n 0, 1) := by decide +kernel
theorem dX6_readLine_29 : decode mX6_readLine.cd 29 = .ok (.ldc 111, 2) := by decide +kernel
theorem dX6_readLine_31 : decode mX6_readLine.cd 31 = .ok (.invokevirtual 99, 3) := by decide +kernel
theorem dX6_readLine_34 : decode mX6_readLine.cd 34 = .ok (.ifCond .eq 8, 3) := by decide +kernel
theorem dX6_readLine_37 : decode mX6_readLine.cd 37 = .ok (.aload_n 0, 1) := by decide +kernel
theorem dX6_readLine_38 : decode mX6_readLine.cd 38 = .ok (.invokevirtual 113, 3) := by decide +kernel
theorem dX6_readLine_41 : decode mX6_readLine.cd 41 = .ok (.ireturn, 1) := by decide +kernel
theorem dX6_readLine_42 : decode mX6_readLine.cd 42 = .ok (.aload_n 0, 1) := by decide +kernel
theorem dX6_readLine_43 : decode mX6_readLine.cd 43 = .ok (.ldc 116, 2) := by decide +kernel
theorem dX6_readLine_45 : decode mX6_readLine.cd 45 = .ok (.invokevirtual 99, 3) := by decide +kernel
theorem dX6_readLine_48 : decode mX6_readLine.cd 48 = .ok (.ifCond .eq 8, 3) := by decide +kernel
theorem dX6_readLine_51 : decode mX6_readLine.cd 51 = .ok (.aload_n 0, 1) := by decide +kernel
theorem dX6_readLine_52 : decode mX6_readLine.cd 52 = .ok (.invokevirtual 118, 3) := by decide +kernel
theorem dX6_readLine_55 : decode mX6_readLine.cd 55 = .ok (.ireturn, 1) := by decide +kernel
theorem dX6_readLine_56 : decode mX6_readLine.cd 56 = .ok (.aload_n 0, 1) := by decide +kernel
theorem dX6_readLine_57 : decode mX6_readLine.cd 57 = .ok (.ldc 121, 2) := by decide +kernel
theorem dX6_readLine_59 : decode mX6_readLine.cd 59 = .ok (.invokevirtual 99, 3) := by decide +kernel
theorem dX6_readLine_62 : decode mX6_readLine.cd 62 = .ok (.ifCond .eq 8, 3) := by decide +kernel
theorem dX6_readLine_65 : decode mX6_readLine.cd 65 = .ok (.aload_n 0, 1) := by decide +kernel
theorem dX6_readLine_66 : decode mX6_readLine.cd 66 = .ok (.invokevirtual 123, 3) := by decide +kernel
theorem dX6_readLine_69 : decode mX6_readLine.cd 69 = .ok (.ireturn, 1) := by decide +kernel
theorem dX6_readLine_70 : decode mX6_readLine.cd 70 = .ok (.aload_n 0, 1) := by decide +kernel
theorem dX6_readLine_71 : decode mX6_readLine.cd 71 = .ok (.ldc 126, 2) := by decide +kernel
theorem dX6_readLine_73 : decode mX6_readLine.cd 73 = .ok (.invokevirtual 99, 3) := by decide +kernel
theorem dX6_readLine_76 : decode mX6_readLine.cd 76 = .ok (.ifCond .eq 8, 3) := by decide +kernel
theorem dX6_readLine_79 : decode mX6_readLine.cd 79 = .ok (.aload_n 0, 1) := by decide +kernel
theorem dX6_readLine_80 : decode mX6_readLine.cd 80 = .ok (.invokevirtual 128, 3) := by decide +kernel
theorem dX6_readLine_83 : decode mX6_readLine.cd 83 = .ok (.ireturn, 1) := by decide +kernel
theorem dX6_readLine_84 : decode mX6_readLine.cd 84 = .ok (.aload_n 0, 1) := by decide +kernel
theorem dX6_readLine_85 : decode mX6_readLine.cd 85 = .ok (.ldc 131, 2) := by decide +kernel
theorem dX6_readLine_87 : decode mX6_readLine.cd 87 = .ok (.invokevirtual 99, 3) := by decide +kernel
theorem dX6_readLine_90 : decode mX6_readLine.cd 90 = .ok (.ifCond .eq 8, 3) := by decide +kernel
theorem dX6_readLine_93 : decode mX6_readLine.cd 93 = .ok (.aload_n 0, 1) := by decide +kernel
theorem dX6_readLine_94 : decode mX6_readLine.cd 94 = .ok (.invokevirtual 133, 3) := by decide +kernel
theorem dX6_readLine_97 : decode mX6_readLine.cd 97 = .ok (.ireturn, 1) := by decide +kernel
theorem dX6_readLine_98 : decode mX6_readLine.cd 98 = .ok (.aload_n 0, 1) := by decide +kernel
theorem dX6_readLine_99 : decode mX6_readLine.cd 99 = .ok (.ldc 136, 2) := by decide +kernel
theorem dX6_readLine_101 : decode mX6_readLine.cd 101 = .ok (.invokevirtual 99, 3) := by decide +kernel
theorem dX6_readLine_104 : decode mX6_readLine.cd 104 = .ok (.ifCond .eq 8, 3) := by decide +kernel
theorem dX6_readLine_107 : decode mX6_readLine.cd 107 = .ok (.aload_n 0, 1) := by decide +kernel
theorem dX6_readLine_108 : decode mX6_readLine.cd 108 = .ok (.invokevirtual 138, 3) := by decide +kernel
theorem dX6_readLine_111 : decode mX6_readLine.cd 111 = .ok (.ireturn, 1) := by decide +kernel
theorem dX6_readLine_112 : decode mX6_readLine.cd 112 = .ok (.aload_n 0, 1) := by decide +kernel
theorem dX6_readLine_113 : decode mX6_readLine.cd 113 = .ok (.iconst 1, 1) := by decide +kernel
theorem dX6_readLine_114 : decode mX6_readLine.cd 114 = .ok (.invokevirtual 86, 3) := by decide +kernel
theorem dX6_readLine_117 : decode mX6_readLine.cd 117 = .ok (.ireturn, 1) := by decide +kernel
theorem bX6_readLine_0 {fr M1 M2 b1 b2 : Nat} {Q : RS → Nat → AH → Prop} {h : AH} {R : Int → AH → Prop}   (hS : Sp mX6_spells true (fr - 1) 0 0 [zR 46, zR (-1)] 137 h (rI R)) (hf : 1 ≤ fr := by omega) (kk : ∀ (x : Int) (h' : AH), R x h' → Wp mX6_readLine (kR fr M1 M2) Q (b1, b2) 6 [zR 46] [zI x] 137 h') : Wp mX6_readLine (kR fr M1 M2) Q (b1, b2) 0 [zR 46] [] 137 h := by
  refine s_aload_n (x := 46) dX6_readLine_0 rfl ?_
  refine s_ldcS (i := 0) (tx := "sound") dX6_readLine_1 rfl rfl ?_
  exact s_callV (as := [zR (-1)]) (st := []) (o := 46) dX6_readLine_3 kX6_99 rfl ⟨6, 12, TX6, e46, rfl, by decide⟩ rfl rfl (Nat.le_of_ble_eq_true rfl) hS (show fr - 1 + 1 ≤ fr by omega) (Nat.zero_le _) (Nat.zero_le _) (fun v n' h' hP _ => by obtain ⟨x, e, rfl, hR⟩ := hP; cases e; exact kk x h' hR) (fun E n' h' _ z => (rI_nt _ _ _ z).elim)
theorem bX6_readLine_6 {fr M1 M2 b1 b2 : Nat} {Q : RS → Nat → AH → Prop} {h : AH} {s0 : Int}  (r1 : -2147483648 ≤ s0 ∧ s0 < 2147483648 := by omega) (kt : s0 = 0 → Wp mX6_readLine (kR fr M1 M2) Q (b1, b2) 14 [zR 46] [] 137 h) (kf : ¬ s0 = 0 → Wp mX6_readLine (kR fr M1 M2) Q (b1, b2) 9 [zR 46] [] 137 h) : Wp mX6_readLine (kR fr M1 M2) Q (b1, b2) 6 [zR 46] [zI s0] 137 h := by
  exact s_if_eq (tgt := 14) dX6_readLine_6 (by decide) r1 kt kf
theorem bX6_readLine_9 {fr M1 M2 b1 b2 : Nat} {Q : RS → Nat → AH → Prop} {h : AH} {R : Int → AH → Prop}   (hS : Sp mX6_readSound true (fr - 1) 0 0 [zR 46] 137 h (rI R)) (hf : 1 ≤ fr := by omega) (kk : ∀ (x : Int) (h' : AH), R x h' → Wp mX6_readLine (kR fr M1 M2) Q (b1, b2) 13 [zR 46] [zI x] 137 h') : Wp mX6_readLine (kR fr M1 M2) Q (b1, b2) 9 [zR 46] [] 137 h := by
  refine s_aload_n (x := 46) dX6_readLine_9 rfl ?_
  exact s_callV (as := []) (st := []) (o := 46) dX6_readLine_10 kX6_103 rfl ⟨6, 12, TX6, e46, rfl, by decide⟩ rfl rfl (Nat.le_of_ble_eq_true rfl) hS (show fr - 1 + 1 ≤ fr by omega) (Nat.zero_le _) (Nat.zero_le _) (fun v n' h' hP _ => by obtain ⟨x, e, rfl, hR⟩ := hP; cases e; exact kk x h' hR) (fun E n' h' _ z => (rI_nt _ _ _ z).elim)
theorem bX6_readLine_13 {fr M1 M2 b1 b2 : Nat} {Q : RS → Nat → AH → Prop} {h : AH} {s0 : Int} {x0 : AV}  (r1 : s0 = 0 ∨ s0 = 1 := by omega) (hq : Q (.inl (some (zI s0))) 137 h) : Wp mX6_readLine (kR fr M1 M2) Q (b1, b2) 13 [x0] [zI s0] 137 h := by
  refine s_fgt (fgt_n _ fgt_0) ?_
  exact s_ireturn dX6_readLine_13 ⟨.boolean, rfl, bool_nar r1⟩ hq (fun z => by cases z)
theorem bX6_readLine_14 {fr M1 M2 b1 b2 : Nat} {Q : RS → Nat → AH → Prop} {h : AH} {R : Int → AH → Prop}   (hS : Sp mX6_spells true (fr - 1) 0 0 [zR 46, zR (-2)] 137 h (rI R)) (hf : 1 ≤ fr := by omega) (kk : ∀ (x : Int) (h' : AH), R x h' → Wp mX6_readLine (kR fr M1 M2) Q (b1, b2) 20 [zR 46] [zI x] 137 h') : Wp mX6_readLine (kR fr M1 M2) Q (b1, b2) 14 [zR 46] [] 137 h := by
  refine s_aload_n (x := 46) dX6_readLine_14 rfl ?_
  refine s_ldcS (i := 1) (tx := "wall") dX6_readLine_15 rfl rfl ?_
  exact s_callV (as := [zR (-2)]) (st := []) (o := 46) dX6_readLine_17 kX6_99 rfl ⟨6, 12, TX6, e46, rfl, by decide⟩ rfl rfl (Nat.le_of_ble_eq_true rfl) hS (show fr - 1 + 1 ≤ fr by omega) (Nat.zero_le _) (Nat.zero_le _) (fun v n' h' hP _ => by obtain ⟨x, e, rfl, hR⟩ := hP; cases e; exact kk x h' hR) (fun E n' h' _ z => (rI_nt _ _ _ z).elim)
theorem bX6_readLine_20 {fr M1 M2 b1 b2 : Nat} {Q : RS → Nat → AH → Prop} {h : AH} {s0 : Int}  (r1 : -2147483648 ≤ s0 ∧ s0 < 2147483648 := by omega) (kt : s0 = 0 → Wp mX6_readLine (kR fr M1 M2) Q (b1, b2) 28 [zR 46] [] 137 h) (kf : ¬ s0 = 0 → Wp mX6_readLine (kR fr M1 M2) Q (b1, b2) 23 [zR 46] [] 137 h) : Wp mX6_readLine (kR fr M1 M2) Q (b1, b2) 20 [zR 46] [zI s0] 137 h := by
  exact s_if_eq (tgt := 28) dX6_readLine_20 (by decide) r1 kt kf
theorem bX6_readLine_23 {fr M1 M2 b1 b2 : Nat} {Q : RS → Nat → AH → Prop} {h : AH} {R : Int → AH → Prop}   (hS : Sp mX6_readWall true (fr - 1) 0 0 [zR 46] 137 h (rI R)) (hf : 1 ≤ fr := by omega) (kk : ∀ (x : Int) (h' : AH), R x h' → Wp mX6_readLine (kR fr M1 M2) Q (b1, b2) 27 [zR 46] [zI x] 137 h') : Wp mX6_readLine (kR fr M1 M2) Q (b1, b2) 23 [zR 46] [] 137 h := by
  refine s_aload_n (x := 46) dX6_readLine_23 rfl ?_
  exact s_callV (as := []) (st := []) (o := 46) dX6_readLine_24 kX6_108 rfl ⟨6, 12, TX6, e46, rfl, by decide⟩ rfl rfl (Nat.le_of_ble_eq_true rfl) hS (show fr - 1 + 1 ≤ fr by omega) (Nat.zero_le _) (Nat.zero_le _) (fun v n' h' hP _ => by obtain ⟨x, e, rfl, hR⟩ := hP; cases e; exact kk x h' hR) (fun E n' h' _ z => (rI_nt _ _ _ z).elim)
theorem bX6_readLine_27 {fr M1 M2 b1 b2 : Nat} {Q : RS → Nat → AH → Prop} {h : AH} {s0 : Int} {x0 : AV}  (r1 : s0 = 0 ∨ s0 = 1 := by omega) (hq : Q (.inl (some (zI s0))) 137 h) : Wp mX6_readLine (kR fr M1 M2) Q (b1, b2) 27 [x0] [zI s0] 137 h := by
  refine s_fgt (fgt_n _ fgt_0) ?_
  exact s_ireturn dX6_readLine_27 ⟨.boolean, rfl, bool_nar r1⟩ hq (fun z => by cases z)
theorem bX6_readLine_28 {fr M1 M2 b1 b2 : Nat} {Q : RS → Nat → AH → Prop} {h : AH} {R : Int → AH → Prop}   (hS : Sp mX6_spells true (fr - 1) 0 0 [zR 46, zR (-5)] 137 h (rI R)) (hf : 1 ≤ fr := by omega) (kk : ∀ (x : Int) (h' : AH), R x h' → Wp mX6_readLine (kR fr M1 M2) Q (b1, b2) 34 [zR 46] [zI x] 137 h') : Wp mX6_readLine (kR fr M1 M2) Q (b1, b2) 28 [zR 46] [] 137 h := by
  refine s_aload_n (x := 46) dX6_readLine_28 rfl ?_
  refine s_ldcS (i := 4) (tx := "straight") dX6_readLine_29 rfl rfl ?_
  exact s_callV (as := [zR (-5)]) (st := []) (o := 46) dX6_readLine_31 kX6_99 rfl ⟨6, 12, TX6, e46, rfl, by decide⟩ rfl rfl (Nat.le_of_ble_eq_true rfl) hS (show fr - 1 + 1 ≤ fr by omega) (Nat.zero_le _) (Nat.zero_le _) (fun v n' h' hP _ => by obtain ⟨x, e, rfl, hR⟩ := hP; cases e; exact kk x h' hR) (fun E n' h' _ z => (rI_nt _ _ _ z).elim)
theorem bX6_readLine_34 {fr M1 M2 b1 b2 : Nat} {Q : RS → Nat → AH → Prop} {h : AH} {s0 : Int}  (r1 : -2147483648 ≤ s0 ∧ s0 < 2147483648 := by omega) (kt : s0 = 0 → Wp mX6_readLine (kR fr M1 M2) Q (b1, b2) 42 [zR 46] [] 137 h) (kf : ¬ s0 = 0 → Wp mX6_readLine (kR fr M1 M2) Q (b1, b2) 37 [zR 46] [] 137 h) : Wp mX6_readLine (kR fr M1 M2) Q (b1, b2) 34 [zR 46] [zI s0] 137 h := by
  exact s_if_eq (tgt := 42) dX6_readLine_34 (by decide) r1 kt kf
theorem bX6_readLine_37 {fr M1 M2 b1 b2 : Nat} {Q : RS → Nat → AH → Prop} {h : AH} {R : Int → AH → Prop}   (hS : Sp mX6_readStraight true (fr - 1) 0 0 [zR 46] 137 h (rI R)) (hf : 1 ≤ fr := by omega) (kk : ∀ (x : Int) (h' : AH), R x h' → Wp mX6_readLine (kR fr M1 M2) Q (b1, b2) 41 [zR 46] [zI x] 137 h') : Wp mX6_readLine (kR fr M1 M2) Q (b1, b2) 37 [zR 46] [] 137 h := by
  refine s_aload_n (x := 46) dX6_readLine_37 rfl ?_
  exact s_callV (as := []) (st := []) (o := 46) dX6_readLine_38 kX6_113 rfl ⟨6, 12, TX6, e46, rfl, by decide⟩ rfl rfl (Nat.le_of_ble_eq_true rfl) hS (show fr - 1 + 1 ≤ fr by omega) (Nat.zero_le _) (Nat.zero_le _) (fun v n' h' hP _ => by obtain ⟨x, e, rfl, hR⟩ := hP; cases e; exact kk x h' hR) (fun E n' h' _ z => (rI_nt _ _ _ z).elim)
theorem bX6_readLine_41 {fr M1 M2 b1 b2 : Nat} {Q : RS → Nat → AH → Prop} {h : AH} {s0 : Int} {x0 : AV}  (r1 : s0 = 0 ∨ s0 = 1 := by omega) (hq : Q (.inl (some (zI s0))) 137 h) : Wp mX6_readLine (kR fr M1 M2) Q (b1, b2) 41 [x0] [zI s0] 137 h := by
  refine s_fgt (fgt_n _ fgt_0) ?_
  exact s_ireturn dX6_readLine_41 ⟨.boolean, rfl, bool_nar r1⟩ hq (fun z => by cases z)
theorem bX6_readLine_42 {fr M1 M2 b1 b2 : Nat} {Q : RS → Nat → AH → Prop} {h : AH} {R : Int → AH → Prop}   (hS : Sp mX6_spells true (fr - 1) 0 0 [zR 46, zR (-6)] 137 h (rI R)) (hf : 1 ≤ fr := by omega) (kk : ∀ (x : Int) (h' : AH), R x h' → Wp mX6_readLine (kR fr M1 M2) Q (b1, b2) 48 [zR 46] [zI x] 137 h') : Wp mX6_readLine (kR fr M1 M2) Q (b1, b2) 42 [zR 46] [] 137 h := by
  refine s_aload_n (x := 46) dX6_readLine_42 rfl ?_
  refine s_ldcS (i := 5) (tx := "air") dX6_readLine_43 rfl rfl ?_
  exact s_callV (as := [zR (-6)]) (st := []) (o := 46) dX6_readLine_45 kX6_99 rfl ⟨6, 12, TX6, e46, rfl, by decide⟩ rfl rfl (Nat.le_of_ble_eq_true rfl) hS (show fr - 1 + 1 ≤ fr by omega) (Nat.zero_le _) (Nat.zero_le _) (fun v n' h' hP _ => by obtain ⟨x, e, rfl, hR⟩ := hP; cases e; exact kk x h' hR) (fun E n' h' _ z => (rI_nt _ _ _ z).elim)
theorem bX6_readLine_48 {fr M1 M2 b1 b2 : Nat} {Q : RS → Nat → AH → Prop} {h : AH} {s0 : Int}  (r1 : -2147483648 ≤ s0 ∧ s0 < 2147483648 := by omega) (kt : s0 = 0 → Wp mX6_readLine (kR fr M1 M2) Q (b1, b2) 56 [zR 46] [] 137 h) (kf : ¬ s0 = 0 → Wp mX6_readLine (kR fr M1 M2) Q (b1, b2) 51 [zR 46] [] 137 h) : Wp mX6_readLine (kR fr M1 M2) Q (b1, b2) 48 [zR 46] [zI s0] 137 h := by
  exact s_if_eq (tgt := 56) dX6_readLine_48 (by decide) r1 kt kf
theorem bX6_readLine_51 {fr M1 M2 b1 b2 : Nat} {Q : RS → Nat → AH → Prop} {h : AH} {R : Int → AH → Prop}   (hS : Sp mX6_readAir true (fr - 1) 0 0 [zR 46] 137 h (rI R)) (hf : 1 ≤ fr := by omega) (kk : ∀ (x : Int) (h' : AH), R x h' → Wp mX6_readLine (kR fr M1 M2) Q (b1, b2) 55 [zR 46] [zI x] 137 h') : Wp mX6_readLine (kR fr M1 M2) Q (b1, b2) 51 [zR 46] [] 137 h := by
  refine s_aload_n (x := 46) dX6_readLine_51 rfl ?_
  exact s_callV (as := []) (st := []) (o := 46) dX6_readLine_52 kX6_118 rfl ⟨6, 12, TX6, e46, rfl, by decide⟩ rfl rfl (Nat.le_of_ble_eq_true rfl) hS (show fr - 1 + 1 ≤ fr by omega) (Nat.zero_le _) (Nat.zero_le _) (fun v n' h' hP _ => by obtain ⟨x, e, rfl, hR⟩ := hP; cases e; exact kk x h' hR) (fun E n' h' _ z => (rI_nt _ _ _ z).elim)
theorem bX6_readLine_55 {fr M1 M2 b1 b2 : Nat} {Q : RS → Nat → AH → Prop} {h : AH} {s0 : Int} {x0 : AV}  (r1 : s0 = 0 ∨ s0 = 1 := by omega) (hq : Q (.inl (some (zI s0))) 137 h) : Wp mX6_readLine (kR fr M1 M2) Q (b1, b2) 55 [x0] [zI s0] 137 h := by
  refine s_fgt (fgt_n _ fgt_0) ?_
  exact s_ireturn dX6_readLine_55 ⟨.boolean, rfl, bool_nar r1⟩ hq (fun z => by cases z)
theorem bX6_readLine_56 {fr M1 M2 b1 b2 : Nat} {Q : RS → Nat → AH → Prop} {h : AH} {R : Int → AH → Prop}   (hS : Sp mX6_spells true (fr - 1) 0 0 [zR 46, zR (-7)] 137 h (rI R)) (hf : 1 ≤ fr := by omega) (kk : ∀ (x : Int) (h' : AH), R x h' → Wp mX6_readLine (kR fr M1 M2) Q (b1, b2) 62 [zR 46] [zI x] 137 h') : Wp mX6_readLine (kR fr M1 M2) Q (b1, b2) 56 [zR 46] [] 137 h := by
  refine s_aload_n (x := 46) dX6_readLine_56 rfl ?_
  refine s_ldcS (i := 6) (tx := "mask") dX6_readLine_57 rfl rfl ?_
  exact s_callV (as := [zR (-7)]) (st := []) (o := 46) dX6_readLine_59 kX6_99 rfl ⟨6, 12, TX6, e46, rfl, by decide⟩ rfl rfl (Nat.le_of_ble_eq_true rfl) hS (show fr - 1 + 1 ≤ fr by omega) (Nat.zero_le _) (Nat.zero_le _) (fun v n' h' hP _ => by obtain ⟨x, e, rfl, hR⟩ := hP; cases e; exact kk x h' hR) (fun E n' h' _ z => (rI_nt _ _ _ z).elim)
theorem bX6_readLine_62 {fr M1 M2 b1 b2 : Nat} {Q : RS → Nat → AH → Prop} {h : AH} {s0 : Int}  (r1 : -2147483648 ≤ s0 ∧ s0 < 2147483648 := by omega) (kt : s0 = 0 → Wp mX6_readLine (kR fr M1 M2) Q (b1, b2) 70 [zR 46] [] 137 h) (kf : ¬ s0 = 0 → Wp mX6_readLine (kR fr M1 M2) Q (b1, b2) 65 [zR 46] [] 137 h) : Wp mX6_readLine (kR fr M1 M2) Q (b1, b2) 62 [zR 46] [zI s0] 137 h := by
  exact s_if_eq (tgt := 70) dX6_readLine_62 (by decide) r1 kt kf
theorem bX6_readLine_65 {fr M1 M2 b1 b2 : Nat} {Q : RS → Nat → AH → Prop} {h : AH} {R : Int → AH → Prop}   (hS : Sp mX6_readMask true (fr - 1) 0 0 [zR 46] 137 h (rI R)) (hf : 1 ≤ fr := by omega) (kk : ∀ (x : Int) (h' : AH), R x h' → Wp mX6_readLine (kR fr M1 M2) Q (b1, b2) 69 [zR 46] [zI x] 137 h') : Wp mX6_readLine (kR fr M1 M2) Q (b1, b2) 65 [zR 46] [] 137 h := by
  refine s_aload_n (x := 46) dX6_readLine_65 rfl ?_
  exact s_callV (as := []) (st := []) (o := 46) dX6_readLine_66 kX6_123 rfl ⟨6, 12, TX6, e46, rfl, by decide⟩ rfl rfl (Nat.le_of_ble_eq_true rfl) hS (show fr - 1 + 1 ≤ fr by omega) (Nat.zero_le _) (Nat.zero_le _) (fun v n' h' hP _ => by obtain ⟨x, e, rfl, hR⟩ := hP; cases e; exact kk x h' hR) (fun E n' h' _ z => (rI_nt _ _ _ z).elim)
theorem bX6_readLine_69 {fr M1 M2 b1 b2 : Nat} {Q : RS → Nat → AH → Prop} {h : AH} {s0 : Int} {x0 : AV}  (r1 : s0 = 0 ∨ s0 = 1 := by omega) (hq : Q (.inl (some (zI s0))) 137 h) : Wp mX6_readLine (kR fr M1 M2) Q (b1, b2) 69 [x0] [zI s0] 137 h := by
  refine s_fgt (fgt_n _ fgt_0) ?_
  exact s_ireturn dX6_readLine_69 ⟨.boolean, rfl, bool_nar r1⟩ hq (fun z => by cases z)
theorem bX6_readLine_70 {fr M1 M2 b1 b2 : Nat} {Q : RS → Nat → AH → Prop} {h : AH} {R : Int → AH → Prop}   (hS : Sp mX6_spells true (fr - 1) 0 0 [zR 46, zR (-8)] 137 h (rI R)) (hf : 1 ≤ fr := by omega) (kk : ∀ (x : Int) (h' : AH), R x h' → Wp mX6_readLine (kR fr M1 M2) Q (b1, b2) 76 [zR 46] [zI x] 137 h') : Wp mX6_readLine (kR fr M1 M2) Q (b1, b2) 70 [zR 46] [] 137 h := by
  refine s_aload_n (x := 46) dX6_readLine_70 rfl ?_
  refine s_ldcS (i := 7) (tx := "sweet") dX6_readLine_71 rfl rfl ?_
  exact s_callV (as := [zR (-8)]) (st := []) (o := 46) dX6_readLine_73 kX6_99 rfl ⟨6, 12, TX6, e46, rfl, by decide⟩ rfl rfl (Nat.le_of_ble_eq_true rfl) hS (show fr - 1 + 1 ≤ fr by omega) (Nat.zero_le _) (Nat.zero_le _) (fun v n' h' hP _ => by obtain ⟨x, e, rfl, hR⟩ := hP; cases e; exact kk x h' hR) (fun E n' h' _ z => (rI_nt _ _ _ z).elim)
theorem bX6_readLine_76 {fr M1 M2 b1 b2 : Nat} {Q : RS → Nat → AH → Prop} {h : AH} {s0 : Int}  (r1 : -2147483648 ≤ s0 ∧ s0 < 2147483648 := by omega) (kt : s0 = 0 → Wp mX6_readLine (kR fr M1 M2) Q (b1, b2) 84 [zR 46] [] 137 h) (kf : ¬ s0 = 0 → Wp mX6_readLine (kR fr M1 M2) Q (b1, b2) 79 [zR 46] [] 137 h) : Wp mX6_readLine (kR fr M1 M2) Q (b1, b2) 76 [zR 46] [zI s0] 137 h := by
  exact s_if_eq (tgt := 84) dX6_readLine_76 (by decide) r1 kt kf
theorem bX6_readLine_79 {fr M1 M2 b1 b2 : Nat} {Q : RS → Nat → AH → Prop} {h : AH} {R : Int → AH → Prop}   (hS : Sp mX6_readSweet true (fr - 1) 0 0 [zR 46] 137 h (rI R)) (hf : 1 ≤ fr := by omega) (kk : ∀ (x : Int) (h' : AH), R x h' → Wp mX6_readLine (kR fr M1 M2) Q (b1, b2) 83 [zR 46] [zI x] 137 h') : Wp mX6_readLine (kR fr M1 M2) Q (b1, b2) 79 [zR 46] [] 137 h := by
  refine s_aload_n (x := 46) dX6_readLine_79 rfl ?_
  exact s_callV (as := []) (st := []) (o := 46) dX6_readLine_80 kX6_128 rfl ⟨6, 12, TX6, e46, rfl, by decide⟩ rfl rfl (Nat.le_of_ble_eq_true rfl) hS (show fr - 1 + 1 ≤ fr by omega) (Nat.zero_le _) (Nat.zero_le _) (fun v n' h' hP _ => by obtain ⟨x, e, rfl, hR⟩ := hP; cases e; exact kk x h' hR) (fun E n' h' _ z => (rI_nt _ _ _ z).elim)
theorem bX6_readLine_83 {fr M1 M2 b1 b2 : Nat} {Q : RS → Nat → AH → Prop} {h : AH} {s0 : Int} {x0 : AV}  (r1 : s0 = 0 ∨ s0 = 1 := by omega) (hq : Q (.inl (some (zI s0))) 137 h) : Wp mX6_readLine (kR fr M1 M2) Q (b1, b2) 83 [x0] [zI s0] 137 h := by
  refine s_fgt (fgt_n _ fgt_0) ?_
  exact s_ireturn dX6_readLine_83 ⟨.boolean, rfl, bool_nar r1⟩ hq (fun z => by cases z)
theorem bX6_readLine_84 {fr M1 M2 b1 b2 : Nat} {Q : RS → Nat → AH → Prop} {h : AH} {R : Int → AH → Prop}   (hS : Sp mX6_spells true (fr - 1) 0 0 [zR 46, zR (-9)] 137 h (rI R)) (hf : 1 ≤ fr := by omega) (kk : ∀ (x : Int) (h' : AH), R x h' → Wp mX6_readLine (kR fr M1 M2) Q (b1, b2) 90 [zR 46] [zI x] 137 h') : Wp mX6_readLine (kR fr M1 M2) Q (b1, b2) 84 [zR 46] [] 137 h := by
  refine s_aload_n (x := 46) dX6_readLine_84 rfl ?_
  refine s_ldcS (i := 8) (tx := "word") dX6_readLine_85 rfl rfl ?_
  exact s_callV (as := [zR (-9)]) (st := []) (o := 46) dX6_readLine_87 kX6_99 rfl ⟨6, 12, TX6, e46, rfl, by decide⟩ rfl rfl (Nat.le_of_ble_eq_true rfl) hS (show fr - 1 + 1 ≤ fr by omega) (Nat.zero_le _) (Nat.zero_le _) (fun v n' h' hP _ => by obtain ⟨x, e, rfl, hR⟩ := hP; cases e; exact kk x h' hR) (fun E n' h' _ z => (rI_nt _ _ _ z).elim)
theorem bX6_readLine_90 {fr M1 M2 b1 b2 : Nat} {Q : RS → Nat → AH → Prop} {h : AH} {s0 : Int}  (r1 : -2147483648 ≤ s0 ∧ s0 < 2147483648 := by omega) (kt : s0 = 0 → Wp mX6_readLine (kR fr M1 M2) Q (b1, b2) 98 [zR 46] [] 137 h) (kf : ¬ s0 = 0 → Wp mX6_readLine (kR fr M1 M2) Q (b1, b2) 93 [zR 46] [] 137 h) : Wp mX6_readLine (kR fr M1 M2) Q (b1, b2) 90 [zR 46] [zI s0] 137 h := by
  exact s_if_eq (tgt := 98) dX6_readLine_90 (by decide) r1 kt kf
theorem bX6_readLine_93 {fr M1 M2 b1 b2 : Nat} {Q : RS → Nat → AH → Prop} {h : AH} {R : Int → AH → Prop}   (hS : Sp mX6_readWord true (fr - 1) 0 0 [zR 46] 137 h (rI R)) (hf : 1 ≤ fr := by omega) (kk : ∀ (x : Int) (h' : AH), R x h' → Wp mX6_readLine (kR fr M1 M2) Q (b1, b2) 97 [zR 46] [zI x] 137 h') : Wp mX6_readLine (kR fr M1 M2) Q (b1, b2) 93 [zR 46] [] 137 h := by
  refine s_aload_n (x := 46) dX6_readLine_93 rfl ?_
  exact s_callV (as := []) (st := []) (o := 46) dX6_readLine_94 kX6_133 rfl ⟨6, 12, TX6, e46, rfl, by decide⟩ rfl rfl (Nat.le_of_ble_eq_true rfl) hS (show fr - 1 + 1 ≤ fr by omega) (Nat.zero_le _) (Nat.zero_le _) (fun v n' h' hP _ => by obtain ⟨x, e, rfl, hR⟩ := hP; cases e; exact kk x h' hR) (fun E n' h' _ z => (rI_nt _ _ _ z).elim)
theorem bX6_readLine_97 {fr M1 M2 b1 b2 : Nat} {Q : RS → Nat → AH → Prop} {h : AH} {s0 : Int} {x0 : AV}  (r1 : s0 = 0 ∨ s0 = 1 := by omega) (hq : Q (.inl (some (zI s0))) 137 h) : Wp mX6_readLine (kR fr M1 M2) Q (b1, b2) 97 [x0] [zI s0] 137 h := by
  refine s_fgt (fgt_n _ fgt_0) ?_
  exact s_ireturn dX6_readLine_97 ⟨.boolean, rfl, bool_nar r1⟩ hq (fun z => by cases z)
theorem bX6_readLine_98 {fr M1 M2 b1 b2 : Nat} {Q : RS → Nat → AH → Prop} {h : AH} {R : Int → AH → Prop}   (hS : Sp mX6_spells true (fr - 1) 0 0 [zR 46, zR (-10)] 137 h (rI R)) (hf : 1 ≤ fr := by omega) (kk : ∀ (x : Int) (h' : AH), R x h' → Wp mX6_readLine (kR fr M1 M2) Q (b1, b2) 104 [zR 46] [zI x] 137 h') : Wp mX6_readLine (kR fr M1 M2) Q (b1, b2) 98 [zR 46] [] 137 h := by
  refine s_aload_n (x := 46) dX6_readLine_98 rfl ?_
  refine s_ldcS (i := 9) (tx := "form") dX6_readLine_99 rfl rfl ?_
  exact s_callV (as := [zR (-10)]) (st := []) (o := 46) dX6_readLine_101 kX6_99 rfl ⟨6, 12, TX6, e46, rfl, by decide⟩ rfl rfl (Nat.le_of_ble_eq_true rfl) hS (show fr - 1 + 1 ≤ fr by omega) (Nat.zero_le _) (Nat.zero_le _) (fun v n' h' hP _ => by obtain ⟨x, e, rfl, hR⟩ := hP; cases e; exact kk x h' hR) (fun E n' h' _ z => (rI_nt _ _ _ z).elim)
theorem bX6_readLine_104 {fr M1 M2 b1 b2 : Nat} {Q : RS → Nat → AH → Prop} {h : AH} {s0 : Int}  (r1 : -2147483648 ≤ s0 ∧ s0 < 2147483648 := by omega) (kt : s0 = 0 → Wp mX6_readLine (kR fr M1 M2) Q (b1, b2) 112 [zR 46] [] 137 h) (kf : ¬ s0 = 0 → Wp mX6_readLine (kR fr M1 M2) Q (b1, b2) 107 [zR 46] [] 137 h) : Wp mX6_readLine (kR fr M1 M2) Q (b1, b2) 104 [zR 46] [zI s0] 137 h := by
  exact s_if_eq (tgt := 112) dX6_readLine_104 (by decide) r1 kt kf
theorem bX6_readLine_107 {fr M1 M2 b1 b2 : Nat} {Q : RS → Nat → AH → Prop} {h : AH} {R : Int → AH → Prop}   (hS : Sp mX6_readForm true (fr - 1) 0 0 [zR 46] 137 h (rI R)) (hf : 1 ≤ fr := by omega) (kk : ∀ (x : Int) (h' : AH), R x h' → Wp mX6_readLine (kR fr M1 M2) Q (b1, b2) 111 [zR 46] [zI x] 137 h') : Wp mX6_readLine (kR fr M1 M2) Q (b1, b2) 107 [zR 46] [] 137 h := by
  refine s_aload_n (x := 46) dX6_readLine_107 rfl ?_
  exact s_callV (as := []) (st := []) (o := 46) dX6_readLine_108 kX6_138 rfl ⟨6, 12, TX6, e46, rfl, by decide⟩ rfl rfl (Nat.le_of_ble_eq_true rfl) hS (show fr - 1 + 1 ≤ fr by omega) (Nat.zero_le _) (Nat.zero_le _) (fun v n' h' hP _ => by obtain ⟨x, e, rfl, hR⟩ := hP; cases e; exact kk x h' hR) (fun E n' h' _ z => (rI_nt _ _ _ z).elim)
theorem bX6_readLine_111 {fr M1 M2 b1 b2 : Nat} {Q : RS → Nat → AH → Prop} {h : AH} {s0 : Int} {x0 : AV}  (r1 : s0 = 0 ∨ s0 = 1 := by omega) (hq : Q (.inl (some (zI s0))) 137 h) : Wp mX6_readLine (kR fr M1 M2) Q (b1, b2) 111 [x0] [zI s0] 137 h := by
  refine s_fgt (fgt_n _ fgt_0) ?_
  exact s_ireturn dX6_readLine_111 ⟨.boolean, rfl, bool_nar r1⟩ hq (fun z => by cases z)
theorem bX6_readLine_112 {fr M1 M2 b1 b2 : Nat} {Q : RS → Nat → AH → Prop} {h : AH} {R : Int → AH → Prop}   (hS : Sp mX6_fail true (fr - 1) 0 0 [zR 46, zI 1] 137 h (rI R)) (hf : 1 ≤ fr := by omega) (kk : ∀ (x : Int) (h' : AH), R x h' → Wp mX6_readLine (kR fr M1 M2) Q (b1, b2) 117 [zR 46] [zI x] 137 h') : Wp mX6_readLine (kR fr M1 M2) Q (b1, b2) 112 [zR 46] [] 137 h := by
  refine s_aload_n (x := 46) dX6_readLine_112 rfl ?_
  refine s_iconst dX6_readLine_113 ?_
  exact s_callV (as := [zI 1]) (st := []) (o := 46) dX6_readLine_114 kX6_86 rfl ⟨6, 12, TX6, e46, rfl, by decide⟩ rfl rfl (Nat.le_of_ble_eq_true rfl) hS (show fr - 1 + 1 ≤ fr by omega) (Nat.zero_le _) (Nat.zero_le _) (fun v n' h' hP _ => by obtain ⟨x, e, rfl, hR⟩ := hP; cases e; exact kk x h' hR) (fun E n' h' _ z => (rI_nt _ _ _ z).elim)
theorem bX6_readLine_117 {fr M1 M2 b1 b2 : Nat} {Q : RS → Nat → AH → Prop} {h : AH} {s0 : Int} {x0 : AV}  (r1 : s0 = 0 ∨ s0 = 1 := by omega) (hq : Q (.inl (some (zI s0))) 137 h) : Wp mX6_readLine (kR fr M1 M2) Q (b1, b2) 117 [x0] [zI s0] 137 h := by
  refine s_fgt (fgt_n _ fgt_0) ?_
  exact s_ireturn dX6_readLine_117 ⟨.boolean, rfl, bool_nar r1⟩ hq (fun z => by cases z)
theorem dX6_readEnd_0 : decode mX6_readEnd.cd 0 = .ok (.aload_n 0, 1) := by decide +kernel
theorem dX6_readEnd_1 : decode mX6_readEnd.cd 1 = .ok (.getfield 56, 3) := by decide +kernel
theorem dX6_readEnd_4 : decode mX6_readEnd.cd 4 = .ok (.iconst 3, 1) := by decide +kernel
theorem dX6_readEnd_5 : decode mX6_readEnd.cd 5 = .ok (.if_icmp .eq 9, 3) := by decide +kernel
theorem dX6_readEnd_8 : decode mX6_readEnd.cd 8 = .ok (.aload_n 0, 1) := by decide +kernel
theorem dX6_readEnd_9 : decode mX6_readEnd.cd 9 = .ok (.iconst 1, 1) := by decide +kernel
theorem dX6_readEnd_10 : decode mX6_readEnd.cd 10 = .ok (.invokevirtual 86, 3) := by decide +kernel
theorem dX6_readEnd_13 : decode mX6_readEnd.cd 13 = .ok (.ireturn, 1) := by decide +kernel
theorem dX6_readEnd_14 : decode mX6_readEnd.cd 14 = .ok (.aload_n 0, 1) := by decide +kernel
theorem dX6_readEnd_15 : decode mX6_readEnd.cd 15 = .ok (.invokevirtual 53, 3) := by decide +kernel
theorem dX6_readEnd_18 : decode mX6_readEnd.cd 18 = .ok (.iconst 1, 1) := by decide +kernel
theorem dX6_readEnd_19 : decode mX6_readEnd.cd 19 = .ok (.ireturn, 1) := by decide +kernel
theorem bX6_readEnd_0 {fr M1 M2 b1 b2 : Nat} {Q : RS → Nat → AH → Prop} {h : AH}  (r1 : -2147483648 ≤ h 46 3 ∧ h 46 3 < 2147483648 := by omega) (kt : h 46 3 = 3 → Wp mX6_readEnd (kR fr M1 M2) Q (b1, b2) 14 [zR 46] [] 137 h) (kf : ¬ h 46 3 = 3 → Wp mX6_readEnd (kR fr M1 M2) Q (b1, b2) 8 [zR 46] [] 137 h) : Wp mX6_readEnd (kR fr M1 M2) Q (b1, b2) 0 [zR 46] [] 137 h := by
  refine s_aload_n (x := 46) dX6_readEnd_0 rfl ?_
  refine s_get (c := 46) dX6_readEnd_1 lX6_56 e46 (by decide) ?_
  refine s_iconst dX6_readEnd_4 ?_
  exact s_icmp_eq (tgt := 14) dX6_readEnd_5 (by decide) r1 ⟨by decide, by decide⟩ kt kf
theorem bX6_readEnd_8 {fr M1 M2 b1 b2 : Nat} {Q : RS → Nat → AH → Prop} {h : AH} {R : Int → AH → Prop}   (hS : Sp mX6_fail true (fr - 1) 0 0 [zR 46, zI 1] 137 h (rI R)) (hf : 1 ≤ fr := by omega) (kk : ∀ (x : Int) (h' : AH), R x h' → Wp mX6_readEnd (kR fr M1 M2) Q (b1, b2) 13 [zR 46] [zI x] 137 h') : Wp mX6_readEnd (kR fr M1 M2) Q (b1, b2) 8 [zR 46] [] 137 h := by
  refine s_aload_n (x := 46) dX6_readEnd_8 rfl ?_
  refine s_iconst dX6_readEnd_9 ?_
  exact s_callV (as := [zI 1]) (st := []) (o := 46) dX6_readEnd_10 kX6_86 rfl ⟨6, 12, TX6, e46, rfl, by decide⟩ rfl rfl (Nat.le_of_ble_eq_true rfl) hS (show fr - 1 + 1 ≤ fr by omega) (Nat.zero_le _) (Nat.zero_le _) (fun v n' h' hP _ => by obtain ⟨x, e, rfl, hR⟩ := hP; cases e; exact kk x h' hR) (fun E n' h' _ z => (rI_nt _ _ _ z).elim)
theorem bX6_readEnd_13 {fr M1 M2 b1 b2 : Nat} {Q : RS → Nat → AH → Prop} {h : AH} {s0 : Int} {x0 : AV}  (r1 : s0 = 0 ∨ s0 = 1 := by omega) (hq : Q (.inl (some (zI s0))) 137 h) : Wp mX6_readEnd (kR fr M1 M2) Q (b1, b2) 13 [x0] [zI s0] 137 h := by
  refine s_fgt (fgt_n _ fgt_0) ?_
  exact s_ireturn dX6_readEnd_13 ⟨.boolean, rfl, bool_nar r1⟩ hq (fun z => by cases z)
theorem bX6_readEnd_14 {fr M1 M2 b1 b2 : Nat} {Q : RS → Nat → AH → Prop} {h : AH} {R : AH → Prop}   (hS : Sp mX6_step true (fr - 1) 0 0 [zR 46] 137 h (rV R)) (hf : 1 ≤ fr := by omega) (kk : ∀ h' : AH, R h' → Wp mX6_readEnd (kR fr M1 M2) Q (b1, b2) 18 [zR 46] [] 137 h') : Wp mX6_readEnd (kR fr M1 M2) Q (b1, b2) 14 [zR 46] [] 137 h := by
  refine s_aload_n (x := 46) dX6_readEnd_14 rfl ?_
  exact s_callV (as := []) (st := []) (o := 46) dX6_readEnd_15 kX6_53 rfl ⟨6, 12, TX6, e46, rfl, by decide⟩ rfl rfl (Nat.le_of_ble_eq_true rfl) hS (show fr - 1 + 1 ≤ fr by omega) (Nat.zero_le _) (Nat.zero_le _) (fun v n' h' hP _ => by obtain ⟨e, rfl, hR⟩ := hP; cases e; exact kk h' hR) (fun E n' h' _ z => (rV_nt _ _ _ z).elim)
theorem bX6_readEnd_18 {fr M1 M2 b1 b2 : Nat} {Q : RS → Nat → AH → Prop} {h : AH} {x0 : AV}   (hq : Q (.inl (some (zI 1))) 137 h) : Wp mX6_readEnd (kR fr M1 M2) Q (b1, b2) 18 [x0] [] 137 h := by
  refine s_fgt (fgt_n _ fgt_0) ?_
  refine s_iconst dX6_readEnd_18 ?_
  exact s_ireturn dX6_readEnd_19 ⟨.boolean, rfl, by decide⟩ hq (fun z => by cases z)
theorem dX6_readSound_0 : decode mX6_readSound.cd 0 = .ok (.aload_n 0, 1) := by decide +kernel
theorem dX6_readSound_1 : decode mX6_readSound.cd 1 = .ok (.getfield 25, 3) := by decide +kernel
theorem dX6_readSound_4 : decode mX6_readSound.cd 4 = .ok (.getfield 94, 3) := by decide +kernel
theorem dX6_readSound_7 : decode mX6_readSound.cd 7 = .ok (.istore_n 1, 1) := by decide +kernel
theorem dX6_readSound_8 : decode mX6_readSound.cd 8 = .ok (.iload_n 1, 1) := by decide +kernel
theorem dX6_readSound_9 : decode mX6_readSound.cd 9 = .ok (.bipush 8, 2) := by decide +kernel
theorem dX6_readSound_11 : decode mX6_readSound.cd 11 = .ok (.if_icmp .lt 9, 3) := by decide +kernel
theorem dX6_readSound_14 : decode mX6_readSound.cd 14 = .ok (.aload_n 0, 1) := by decide +kernel
theorem dX6_readSound_15 : decode mX6_readSound.cd 15 = .ok (.iconst 2, 1) := by decide +kernel
theorem dX6_readSound_16 : decode mX6_readSound.cd 16 = .ok (.invokevirtual 86, 3) := by decide +kernel
theorem dX6_readSound_19 : decode mX6_readSound.cd 19 = .ok (.ireturn, 1) := by decide +kernel
theorem dX6_readSound_20 : decode mX6_readSound.cd 20 = .ok (.aload_n 0, 1) := by decide +kernel
theorem dX6_readSound_21 : decode mX6_readSound.cd 21 = .ok (.invokevirtual 53, 3) := by decide +kernel
theorem dX6_readSound_24 : decode mX6_readSound.cd 24 = .ok (.aload_n 0, 1) := by decide +kernel
theorem dX6_readSound_25 : decode mX6_readSound.cd 25 = .ok (.iconst 1, 1) := by decide +kernel
theorem dX6_readSound_26 : decode mX6_readSound.cd 26 = .ok (.bipush 99, 2) := by decide +kernel
theorem dX6_readSound_28 : decode mX6_readSound.cd 28 = .ok (.invokevirtual 90, 3) := by decide +kernel
theorem dX6_readSound_31 : decode mX6_readSound.cd 31 = .ok (.ifCond .ne 5, 3) := by decide +kernel
theorem dX6_readSound_34 : decode mX6_readSound.cd 34 = .ok (.iconst 0, 1) := by decide +kernel
theorem dX6_readSound_35 : decode mX6_readSound.cd 35 = .ok (.ireturn, 1) := by decide +kernel
theorem dX6_readSound_36 : decode mX6_readSound.cd 36 = .ok (.aload_n 0, 1) := by decide +kernel
theorem dX6_readSound_37 : decode mX6_readSound.cd 37 = .ok (.getfield 25, 3) := by decide +kernel
theorem dX6_readSound_40 : decode mX6_readSound.cd 40 = .ok (.getfield 141, 3) := by decide +kernel
theorem dX6_readSound_43 : decode mX6_readSound.cd 43 = .ok (.iload_n 1, 1) := by decide +kernel
theorem dX6_readSound_44 : decode mX6_readSound.cd 44 = .ok (.aload_n 0, 1) := by decide +kernel
theorem dX6_readSound_45 : decode mX6_readSound.cd 45 = .ok (.getfield 66, 3) := by decide +kernel
theorem dX6_readSound_48 : decode mX6_readSound.cd 48 = .ok (.iastore, 1) := by decide +kernel
theorem dX6_readSound_49 : decode mX6_readSound.cd 49 = .ok (.aload_n 0, 1) := by decide +kernel
theorem dX6_readSound_50 : decode mX6_readSound.cd 50 = .ok (.invokevirtual 53, 3) := by decide +kernel
theorem dX6_readSound_53 : decode mX6_readSound.cd 53 = .ok (.aload_n 0, 1) := by decide +kernel
theorem dX6_readSound_54 : decode mX6_readSound.cd 54 = .ok (.iconst 0, 1) := by decide +kernel
theorem dX6_readSound_55 : decode mX6_readSound.cd 55 = .ok (.iconst 3, 1) := by decide +kernel
theorem dX6_readSound_56 : decode mX6_readSound.cd 56 = .ok (.invokevirtual 90, 3) := by decide +kernel
theorem dX6_readSound_59 : decode mX6_readSound.cd 59 = .ok (.ifCond .ne 5, 3) := by decide +kernel
theorem dX6_readSound_62 : decode mX6_readSound.cd 62 = .ok (.iconst 0, 1) := by decide +kernel
theorem dX6_readSound_63 : decode mX6_readSound.cd 63 = .ok (.ireturn, 1) := by decide +kernel
theorem dX6_readSound_64 : decode mX6_readSound.cd 64 = .ok (.aload_n 0, 1) := by decide +kernel
theorem dX6_readSound_65 : decode mX6_readSound.cd 65 = .ok (.getfield 25, 3) := by decide +kernel
theorem dX6_readSound_68 : decode mX6_readSound.cd 68 = .ok (.getfield 145, 3) := by decide +kernel
theorem dX6_readSound_71 : decode mX6_readSound.cd 71 = .ok (.iload_n 1, 1) := by decide +kernel
theorem dX6_readSound_72 : decode mX6_readSound.cd 72 = .ok (.aload_n 0, 1) := by decide +kernel
theorem dX6_readSound_73 : decode mX6_readSound.cd 73 = .ok (.getfield 66, 3) := by decide +kernel
theorem dX6_readSound_76 : decode mX6_readSound.cd 76 = .ok (.iastore, 1) := by decide +kernel
theorem dX6_readSound_77 : decode mX6_readSound.cd 77 = .ok (.aload_n 0, 1) := by decide +kernel
theorem dX6_readSound_78 : decode mX6_readSound.cd 78 = .ok (.getfield 25, 3) := by decide +kernel
theorem dX6_readSound_81 : decode mX6_readSound.cd 81 = .ok (.dup, 1) := by decide +kernel
theorem dX6_readSound_82 : decode mX6_readSound.cd 82 = .ok (.getfield 94, 3) := by decide +kernel
theorem dX6_readSound_85 : decode mX6_readSound.cd 85 = .ok (.iconst 1, 1) := by decide +kernel
theorem dX6_readSound_86 : decode mX6_readSound.cd 86 = .ok (.iadd, 1) := by decide +kernel
theorem dX6_readSound_87 : decode mX6_readSound.cd 87 = .ok (.putfield 94, 3) := by decide +kernel
theorem dX6_readSound_90 : decode mX6_readSound.cd 90 = .ok (.aload_n 0, 1) := by decide +kernel
theorem dX6_readSound_91 : decode mX6_readSound.cd 91 = .ok (.invokevirtual 53, 3) := by decide +kernel
theorem dX6_readSound_94 : decode mX6_readSound.cd 94 = .ok (.aload_n 0, 1) := by decide +kernel
theorem dX6_readSound_95 : decode mX6_readSound.cd 95 = .ok (.invokevirtual 148, 3) := by decide +kernel
theorem dX6_readSound_98 : decode mX6_readSound.cd 98 = .ok (.ireturn, 1) := by decide +kernel
theorem bX6_readSound_0 {fr M1 M2 b1 b2 : Nat} {Q : RS → Nat → AH → Prop} {h : AH} {x1 : AV} (c1 : cel 137 (h 46 2) (2, 21) := by first | assumption | omega) (r1 : -2147483648 ≤ h (h 46 2) 0 ∧ h (h 46 2) 0 < 2147483648 := by omega) (kt : h (h 46 2) 0 < 8 → Wp mX6_readSound (kR fr M1 M2) Q (b1, b2) 20 [zR 46, zI (h (h 46 2) 0)] [] 137 h) (kf : 8 ≤ h (h 46 2) 0 → Wp mX6_readSound (kR fr M1 M2) Q (b1, b2) 14 [zR 46, zI (h (h 46 2) 0)] [] 137 h) : Wp mX6_readSound (kR fr M1 M2) Q (b1, b2) 0 [zR 46, x1] [] 137 h := by
  refine s_fgt (fgt_c (fgt_n _ fgt_0)) ?_
  refine s_aload_n (x := 46) dX6_readSound_0 rfl ?_
  refine s_getR (c := 46) dX6_readSound_1 lX6_25 e46 rfl ?_
  refine s_get (c := h 46 2) dX6_readSound_4 lX6_94 c1 (by decide) ?_
  refine s_istore_n dX6_readSound_7 rfl (by decide) ?_
  refine s_iload_n (x := h (h 46 2) 0) dX6_readSound_8 rfl ?_
  refine s_bipush dX6_readSound_9 (by decide) ?_
  exact s_icmp_lt (tgt := 20) dX6_readSound_11 (by decide) r1 ⟨by decide, by decide⟩ kt kf
theorem bX6_readSound_14 {fr M1 M2 b1 b2 : Nat} {Q : RS → Nat → AH → Prop} {h : AH} {x1 : AV} {R : Int → AH → Prop}   (hS : Sp mX6_fail true (fr - 1) 0 0 [zR 46, zI 2] 137 h (rI R)) (hf : 1 ≤ fr := by omega) (kk : ∀ (x : Int) (h' : AH), R x h' → Wp mX6_readSound (kR fr M1 M2) Q (b1, b2) 19 [zR 46, none] [zI x] 137 h') : Wp mX6_readSound (kR fr M1 M2) Q (b1, b2) 14 [zR 46, x1] [] 137 h := by
  refine s_fgt (fgt_c (fgt_n _ fgt_0)) ?_
  refine s_aload_n (x := 46) dX6_readSound_14 rfl ?_
  refine s_iconst dX6_readSound_15 ?_
  exact s_callV (as := [zI 2]) (st := []) (o := 46) dX6_readSound_16 kX6_86 rfl ⟨6, 12, TX6, e46, rfl, by decide⟩ rfl rfl (Nat.le_of_ble_eq_true rfl) hS (show fr - 1 + 1 ≤ fr by omega) (Nat.zero_le _) (Nat.zero_le _) (fun v n' h' hP _ => by obtain ⟨x, e, rfl, hR⟩ := hP; cases e; exact kk x h' hR) (fun E n' h' _ z => (rI_nt _ _ _ z).elim)
theorem bX6_readSound_19 {fr M1 M2 b1 b2 : Nat} {Q : RS → Nat → AH → Prop} {h : AH} {s0 : Int} {x0 x1 : AV}  (r1 : s0 = 0 ∨ s0 = 1 := by omega) (hq : Q (.inl (some (zI s0))) 137 h) : Wp mX6_readSound (kR fr M1 M2) Q (b1, b2) 19 [x0, x1] [zI s0] 137 h := by
  refine s_fgt (fgt_n _ (fgt_n _ fgt_0)) ?_
  exact s_ireturn dX6_readSound_19 ⟨.boolean, rfl, bool_nar r1⟩ hq (fun z => by cases z)
theorem bX6_readSound_20 {fr M1 M2 b1 b2 : Nat} {Q : RS → Nat → AH → Prop} {h : AH} {l1 : Int} {R : AH → Prop}   (hS : Sp mX6_step true (fr - 1) 0 0 [zR 46] 137 h (rV R)) (hf : 1 ≤ fr := by omega) (kk : ∀ h' : AH, R h' → Wp mX6_readSound (kR fr M1 M2) Q (b1, b2) 24 [zR 46, zI l1] [] 137 h') : Wp mX6_readSound (kR fr M1 M2) Q (b1, b2) 20 [zR 46, zI l1] [] 137 h := by
  refine s_aload_n (x := 46) dX6_readSound_20 rfl ?_
  exact s_callV (as := []) (st := []) (o := 46) dX6_readSound_21 kX6_53 rfl ⟨6, 12, TX6, e46, rfl, by decide⟩ rfl rfl (Nat.le_of_ble_eq_true rfl) hS (show fr - 1 + 1 ≤ fr by omega) (Nat.zero_le _) (Nat.zero_le _) (fun v n' h' hP _ => by obtain ⟨e, rfl, hR⟩ := hP; cases e; exact kk h' hR) (fun E n' h' _ z => (rV_nt _ _ _ z).elim)
theorem bX6_readSound_24 {fr M1 M2 b1 b2 : Nat} {Q : RS → Nat → AH → Prop} {h : AH} {l1 : Int} {R : Int → AH → Prop}   (hS : Sp mX6_isNumber true (fr - 1) 0 0 [zR 46, zI 1, zI 99] 137 h (rI R)) (hf : 1 ≤ fr := by omega) (kk : ∀ (x : Int) (h' : AH), R x h' → Wp mX6_readSound (kR fr M1 M2) Q (b1, b2) 31 [zR 46, zI l1] [zI x] 137 h') : Wp mX6_readSound (kR fr M1 M2) Q (b1, b2) 24 [zR 46, zI l1] [] 137 h := by
  refine s_aload_n (x := 46) dX6_readSound_24 rfl ?_
  refine s_iconst dX6_readSound_25 ?_
  refine s_bipush dX6_readSound_26 (by decide) ?_
  exact s_callV (as := [zI 1, zI 99]) (st := []) (o := 46) dX6_readSound_28 kX6_90 rfl ⟨6, 12, TX6, e46, rfl, by decide⟩ rfl rfl (Nat.le_of_ble_eq_true rfl) hS (show fr - 1 + 1 ≤ fr by omega) (Nat.zero_le _) (Nat.zero_le _) (fun v n' h' hP _ => by obtain ⟨x, e, rfl, hR⟩ := hP; cases e; exact kk x h' hR) (fun E n' h' _ z => (rI_nt _ _ _ z).elim)
theorem bX6_readSound_31 {fr M1 M2 b1 b2 : Nat} {Q : RS → Nat → AH → Prop} {h : AH} {l1 s0 : Int}  (r1 : -2147483648 ≤ s0 ∧ s0 < 2147483648 := by omega) (kt : ¬ s0 = 0 → Wp mX6_readSound (kR fr M1 M2) Q (b1, b2) 36 [zR 46, zI l1] [] 137 h) (kf : s0 = 0 → Wp mX6_readSound (kR fr M1 M2) Q (b1, b2) 34 [zR 46, zI l1] [] 137 h) : Wp mX6_readSound (kR fr M1 M2) Q (b1, b2) 31 [zR 46, zI l1] [zI s0] 137 h := by
  exact s_if_ne (tgt := 36) dX6_readSound_31 (by decide) r1 kt kf
theorem bX6_readSound_34 {fr M1 M2 b1 b2 : Nat} {Q : RS → Nat → AH → Prop} {h : AH} {x0 x1 : AV}   (hq : Q (.inl (some (zI 0))) 137 h) : Wp mX6_readSound (kR fr M1 M2) Q (b1, b2) 34 [x0, x1] [] 137 h := by
  refine s_fgt (fgt_n _ (fgt_n _ fgt_0)) ?_
  refine s_iconst dX6_readSound_34 ?_
  exact s_ireturn dX6_readSound_35 ⟨.boolean, rfl, by decide⟩ hq (fun z => by cases z)
theorem bX6_readSound_36 {fr M1 M2 b1 b2 : Nat} {Q : RS → Nat → AH → Prop} {h : AH} {l1 : Int} {R : AH → Prop} (c1 : cel 137 (h 46 2) (2, 21) := by first | assumption | omega) (r1 : 0 ≤ l1 ∧ l1 < 8 := by omega) (hS : Sp mX6_step true (fr - 1) 0 0 [zR 46] 137 (up h ((h 46 2) + 1) l1 (h 46 6)) (rV R)) (hf : 1 ≤ fr := by omega) (kk : ∀ h' : AH, R h' → Wp mX6_readSound (kR fr M1 M2) Q (b1, b2) 53 [zR 46, zI l1] [] 137 h') : Wp mX6_readSound (kR fr M1 M2) Q (b1, b2) 36 [zR 46, zI l1] [] 137 h := by
  refine s_aload_n (x := 46) dX6_readSound_36 rfl ?_
  refine s_getR (c := 46) dX6_readSound_37 lX6_25 e46 rfl ?_
  refine s_getFd (c := h 46 2) (d := (h 46 2) + 1) dX6_readSound_40 lX6_141 c1 (Or.inl rfl) rfl (ne0 (fin_X2_7 c1)) ?_
  refine s_iload_n (x := l1) dX6_readSound_43 rfl ?_
  refine s_aload_n (x := 46) dX6_readSound_44 rfl ?_
  refine s_get (c := 46) dX6_readSound_45 lX6_66 e46 (by decide) ?_
  refine s_iast (c := (h 46 2) + 1) (i := l1) dX6_readSound_48 (fin_X2_7 c1) r1.1 r1.2 ?_
  refine s_aload_n (x := 46) dX6_readSound_49 rfl ?_
  exact s_callV (as := []) (st := []) (o := 46) dX6_readSound_50 kX6_53 rfl ⟨6, 12, TX6, e46, rfl, by decide⟩ rfl rfl (Nat.le_of_ble_eq_true rfl) hS (show fr - 1 + 1 ≤ fr by omega) (Nat.zero_le _) (Nat.zero_le _) (fun v n' h' hP _ => by obtain ⟨e, rfl, hR⟩ := hP; cases e; exact kk h' hR) (fun E n' h' _ z => (rV_nt _ _ _ z).elim)
theorem bX6_readSound_53 {fr M1 M2 b1 b2 : Nat} {Q : RS → Nat → AH → Prop} {h : AH} {l1 : Int} {R : Int → AH → Prop}   (hS : Sp mX6_isNumber true (fr - 1) 0 0 [zR 46, zI 0, zI 3] 137 h (rI R)) (hf : 1 ≤ fr := by omega) (kk : ∀ (x : Int) (h' : AH), R x h' → Wp mX6_readSound (kR fr M1 M2) Q (b1, b2) 59 [zR 46, zI l1] [zI x] 137 h') : Wp mX6_readSound (kR fr M1 M2) Q (b1, b2) 53 [zR 46, zI l1] [] 137 h := by
  refine s_aload_n (x := 46) dX6_readSound_53 rfl ?_
  refine s_iconst dX6_readSound_54 ?_
  refine s_iconst dX6_readSound_55 ?_
  exact s_callV (as := [zI 0, zI 3]) (st := []) (o := 46) dX6_readSound_56 kX6_90 rfl ⟨6, 12, TX6, e46, rfl, by decide⟩ rfl rfl (Nat.le_of_ble_eq_true rfl) hS (show fr - 1 + 1 ≤ fr by omega) (Nat.zero_le _) (Nat.zero_le _) (fun v n' h' hP _ => by obtain ⟨x, e, rfl, hR⟩ := hP; cases e; exact kk x h' hR) (fun E n' h' _ z => (rI_nt _ _ _ z).elim)
theorem bX6_readSound_59 {fr M1 M2 b1 b2 : Nat} {Q : RS → Nat → AH → Prop} {h : AH} {l1 s0 : Int}  (r1 : -2147483648 ≤ s0 ∧ s0 < 2147483648 := by omega) (kt : ¬ s0 = 0 → Wp mX6_readSound (kR fr M1 M2) Q (b1, b2) 64 [zR 46, zI l1] [] 137 h) (kf : s0 = 0 → Wp mX6_readSound (kR fr M1 M2) Q (b1, b2) 62 [zR 46, zI l1] [] 137 h) : Wp mX6_readSound (kR fr M1 M2) Q (b1, b2) 59 [zR 46, zI l1] [zI s0] 137 h := by
  exact s_if_ne (tgt := 64) dX6_readSound_59 (by decide) r1 kt kf
theorem bX6_readSound_62 {fr M1 M2 b1 b2 : Nat} {Q : RS → Nat → AH → Prop} {h : AH} {x0 x1 : AV}   (hq : Q (.inl (some (zI 0))) 137 h) : Wp mX6_readSound (kR fr M1 M2) Q (b1, b2) 62 [x0, x1] [] 137 h := by
  refine s_fgt (fgt_n _ (fgt_n _ fgt_0)) ?_
  refine s_iconst dX6_readSound_62 ?_
  exact s_ireturn dX6_readSound_63 ⟨.boolean, rfl, by decide⟩ hq (fun z => by cases z)
theorem bX6_readSound_64 {fr M1 M2 b1 b2 : Nat} {Q : RS → Nat → AH → Prop} {h : AH} {l1 : Int} {R : AH → Prop} (c1 : cel 137 (h 46 2) (2, 21) := by first | assumption | omega) (c2 : cel 137 ((up h ((h 46 2) + 2) l1 (h 46 6)) 46 2) (2, 21) := by first | assumption | omega) (r1 : 0 ≤ l1 ∧ l1 < 8 := by omega) (hS : Sp mX6_step true (fr - 1) 0 0 [zR 46] 137 (up (up h ((h 46 2) + 2) l1 (h 46 6)) ((up h ((h 46 2) + 2) l1 (h 46 6)) 46 2) 0 (((up h ((h 46 2) + 2) l1 (h 46 6)) ((up h ((h 46 2) + 2) l1 (h 46 6)) 46 2) 0) + 1)) (rV R)) (hf : 1 ≤ fr := by omega) (kk : ∀ h' : AH, R h' → Wp mX6_readSound (kR fr M1 M2) Q (b1, b2) 94 [zR 46, zI l1] [] 137 h') : Wp mX6_readSound (kR fr M1 M2) Q (b1, b2) 64 [zR 46, zI l1] [] 137 h := by
  refine s_aload_n (x := 46) dX6_readSound_64 rfl ?_
  refine s_getR (c := 46) dX6_readSound_65 lX6_25 e46 rfl ?_
  refine s_getFd (c := h 46 2) (d := (h 46 2) + 2) dX6_readSound_68 lX6_145 c1 (Or.inl rfl) rfl (ne0 (fin_X2_8 c1)) ?_
  refine s_iload_n (x := l1) dX6_readSound_71 rfl ?_
  refine s_aload_n (x := 46) dX6_readSound_72 rfl ?_
  refine s_get (c := 46) dX6_readSound_73 lX6_66 e46 (by decide) ?_
  refine s_iast (c := (h 46 2) + 2) (i := l1) dX6_readSound_76 (fin_X2_8 c1) r1.1 r1.2 ?_
  refine s_aload_n (x := 46) dX6_readSound_77 rfl ?_
  refine s_getR (c := 46) dX6_readSound_78 lX6_25 e46 rfl ?_
  refine s_dup dX6_readSound_81 rfl ?_
  refine s_get (c := (up h ((h 46 2) + 2) l1 (h 46 6)) 46 2) dX6_readSound_82 lX6_94 c2 (by decide) ?_
  refine s_iconst dX6_readSound_85 ?_
  refine s_iadd dX6_readSound_86 ?_
  refine s_put (c := (up h ((h 46 2) + 2) l1 (h 46 6)) 46 2) dX6_readSound_87 lX6_94 c2 ?_
  refine s_aload_n (x := 46) dX6_readSound_90 rfl ?_
  exact s_callV (as := []) (st := []) (o := 46) dX6_readSound_91 kX6_53 rfl ⟨6, 12, TX6, e46, rfl, by decide⟩ rfl rfl (Nat.le_of_ble_eq_true rfl) hS (show fr - 1 + 1 ≤ fr by omega) (Nat.zero_le _) (Nat.zero_le _) (fun v n' h' hP _ => by obtain ⟨e, rfl, hR⟩ := hP; cases e; exact kk h' hR) (fun E n' h' _ z => (rV_nt _ _ _ z).elim)
theorem bX6_readSound_94 {fr M1 M2 b1 b2 : Nat} {Q : RS → Nat → AH → Prop} {h : AH} {x1 : AV} {R : Int → AH → Prop}   (hS : Sp mX6_readEnd true (fr - 1) 0 0 [zR 46] 137 h (rI R)) (hf : 1 ≤ fr := by omega) (kk : ∀ (x : Int) (h' : AH), R x h' → Wp mX6_readSound (kR fr M1 M2) Q (b1, b2) 98 [zR 46, none] [zI x] 137 h') : Wp mX6_readSound (kR fr M1 M2) Q (b1, b2) 94 [zR 46, x1] [] 137 h := by
  refine s_fgt (fgt_c (fgt_n _ fgt_0)) ?_
  refine s_aload_n (x := 46) dX6_readSound_94 rfl ?_
  exact s_callV (as := []) (st := []) (o := 46) dX6_readSound_95 kX6_148 rfl ⟨6, 12, TX6, e46, rfl, by decide⟩ rfl rfl (Nat.le_of_ble_eq_true rfl) hS (show fr - 1 + 1 ≤ fr by omega) (Nat.zero_le _) (Nat.zero_le _) (fun v n' h' hP _ => by obtain ⟨x, e, rfl, hR⟩ := hP; cases e; exact kk x h' hR) (fun E n' h' _ z => (rI_nt _ _ _ z).elim)
theorem bX6_readSound_98 {fr M1 M2 b1 b2 : Nat} {Q : RS → Nat → AH → Prop} {h : AH} {s0 : Int} {x0 x1 : AV}  (r1 : s0 = 0 ∨ s0 = 1 := by omega) (hq : Q (.inl (some (zI s0))) 137 h) : Wp mX6_readSound (kR fr M1 M2) Q (b1, b2) 98 [x0, x1] [zI s0] 137 h := by
  refine s_fgt (fgt_n _ (fgt_n _ fgt_0)) ?_
  exact s_ireturn dX6_readSound_98 ⟨.boolean, rfl, bool_nar r1⟩ hq (fun z => by cases z)
theorem dX6_readWall_0 : decode mX6_readWall.cd 0 = .ok (.aload_n 0, 1) := by decide +kernel
theorem dX6_readWall_1 : decode mX6_readWall.cd 1 = .ok (.getfield 25, 3) := by decide +kernel
theorem dX6_readWall_4 : decode mX6_readWall.cd 4 = .ok (.getfield 151, 3) := by decide +kernel
theorem dX6_readWall_7 : decode mX6_readWall.cd 7 = .ok (.istore_n 1, 1) := by decide +kernel
theorem dX6_readWall_8 : decode mX6_readWall.cd 8 = .ok (.iload_n 1, 1) := by decide +kernel
theorem dX6_readWall_9 : decode mX6_readWall.cd 9 = .ok (.bipush 6, 2) := by decide +kernel
theorem dX6_readWall_11 : decode mX6_readWall.cd 11 = .ok (.if_icmp .lt 9, 3) := by decide +kernel
theorem dX6_readWall_14 : decode mX6_readWall.cd 14 = .ok (.aload_n 0, 1) := by decide +kernel
theorem dX6_readWall_15 : decode mX6_readWall.cd 15 = .ok (.iconst 2, 1) := by decide +kernel
theorem dX6_readWall_16 : decode mX6_readWall.cd 16 = .ok (.invokevirtual 86, 3) := by decide +kernel
theorem dX6_readWall_19 : decode mX6_readWall.cd 19 = .ok (.ireturn, 1) := by decide +kernel
theorem dX6_readWall_20 : decode mX6_readWall.cd 20 = .ok (.aload_n 0, 1) := by decide +kernel
theorem dX6_readWall_21 : decode mX6_readWall.cd 21 = .ok (.invokevirtual 53, 3) := by decide +kernel
theorem dX6_readWall_24 : decode mX6_readWall.cd 24 = .ok (.iconst 0, 1) := by decide +kernel
theorem dX6_readWall_25 : decode mX6_readWall.cd 25 = .ok (.istore_n 2, 1) := by decide +kernel
theorem dX6_readWall_26 : decode mX6_readWall.cd 26 = .ok (.iload_n 2, 1) := by decide +kernel
theorem dX6_readWall_27 : decode mX6_readWall.cd 27 = .ok (.iconst 3, 1) := by decide +kernel
theorem dX6_readWall_28 : decode mX6_readWall.cd 28 = .ok (.if_icmp .ge 42, 3) := by decide +kernel
theorem dX6_readWall_31 : decode mX6_readWall.cd 31 = .ok (.aload_n 0, 1) := by decide +kernel
theorem dX6_readWall_32 : decode mX6_readWall.cd 32 = .ok (.iconst 1, 1) := by decide +kernel
theorem dX6_readWall_33 : decode mX6_readWall.cd 33 = .ok (.bipush 40, 2) := by decide +kernel
theorem dX6_readWall_35 : decode mX6_readWall.cd 35 = .ok (.invokevirtual 90, 3) := by decide +kernel
theorem dX6_readWall_38 : decode mX6_readWall.cd 38 = .ok (.ifCond .ne 5, 3) := by decide +kernel
theorem dX6_readWall_41 : decode mX6_readWall.cd 41 = .ok (.iconst 0, 1) := by decide +kernel
theorem dX6_readWall_42 : decode mX6_readWall.cd 42 = .ok (.ireturn, 1) := by decide +kernel
theorem dX6_readWall_43 : decode mX6_readWall.cd 43 = .ok (.aload_n 0, 1) := by decide +kernel
theorem dX6_readWall_44 : decode mX6_readWall.cd 44 = .ok (.getfield 25, 3) := by decide +kernel
theorem dX6_readWall_47 : decode mX6_readWall.cd 47 = .ok (.getfield 154, 3) := by decide +kernel
theorem dX6_readWall_50 : decode mX6_readWall.cd 50 = .ok (.iload_n 1, 1) := by decide +kernel
theorem dX6_readWall_51 : decode mX6_readWall.cd 51 = .ok (.iconst 3, 1) := by decide +kernel
theorem dX6_readWall_52 : decode mX6_readWall.cd 52 = .ok (.imul, 1) := by decide +kernel
theorem dX6_readWall_53 : decode mX6_readWall.cd 53 = .ok (.iload_n 2, 1) := by decide +kernel
theorem dX6_readWall_54 : decode mX6_readWall.cd 54 = .ok (.iadd, 1) := by decide +kernel
theorem dX6_readWall_55 : decode mX6_readWall.cd 55 = .ok (.aload_n 0, 1) := by decide +kernel
theorem dX6_readWall_56 : decode mX6_readWall.cd 56 = .ok (.getfield 66, 3) := by decide +kernel
theorem dX6_readWall_59 : decode mX6_readWall.cd 59 = .ok (.iastore, 1) := by decide +kernel
theorem dX6_readWall_60 : decode mX6_readWall.cd 60 = .ok (.aload_n 0, 1) := by decide +kernel
theorem dX6_readWall_61 : decode mX6_readWall.cd 61 = .ok (.invokevirtual 53, 3) := by decide +kernel
theorem dX6_readWall_64 : decode mX6_readWall.cd 64 = .ok (.iinc 2 1, 3) := by decide +kernel
theorem dX6_readWall_67 : decode mX6_readWall.cd 67 = .ok (.goto (-41), 3) := by decide +kernel
theorem dX6_readWall_70 : decode mX6_readWall.cd 70 = .ok (.aload_n 0, 1) := by decide +kernel
theorem dX6_readWall_71 : decode mX6_readWall.cd 71 = .ok (.iconst 0, 1) := by decide +kernel
theorem dX6_readWall_72 : decode mX6_readWall.cd 72 = .ok (.bipush 100, 2) := by decide +kernel
theorem dX6_readWall_74 : decode mX6_readWall.cd 74 = .ok (.invokevirtual 90, 3) := by decide +kernel
theorem dX6_readWall_77 : decode mX6_readWall.cd 77 = .ok (.ifCond .ne 5, 3) := by decide +kernel
theorem dX6_readWall_80 : decode mX6_readWall.cd 80 = .ok (.iconst 0, 1) := by decide +kernel
theorem dX6_readWall_81 : decode mX6_readWall.cd 81 = .ok (.ireturn, 1) := by decide +kernel
theorem dX6_readWall_82 : decode mX6_readWall.cd 82 = .ok (.aload_n 0, 1) := by decide +kernel
theorem dX6_readWall_83 : decode mX6_readWall.cd 83 = .ok (.getfield 25, 3) := by decide +kernel
theorem dX6_readWall_86 : decode mX6_readWall.cd 86 = .ok (.getfield 157, 3) := by decide +kernel
theorem dX6_readWall_89 : decode mX6_readWall.cd 89 = .ok (.iload_n 1, 1) := by decide +kernel
theorem dX6_readWall_90 : decode mX6_readWall.cd 90 = .ok (.aload_n 0, 1) := by decide +kernel
theorem dX6_readWall_91 : decode mX6_readWall.cd 91 = .ok (.getfield 66, 3) := by decide +kernel
theorem dX6_readWall_94 : decode mX6_readWall.cd 94 = .ok (.iastore, 1) := by decide +kernel
theorem dX6_readWall_95 : decode mX6_readWall.cd 95 = .ok (.aload_n 0, 1) := by decide +kernel
theorem dX6_readWall_96 : decode mX6_readWall.cd 96 = .ok (.getfield 25, 3) := by decide +kernel
theorem dX6_readWall_99 : decode mX6_readWall.cd 99 = .ok (.getfield 160, 3) := by decide +kernel
theorem dX6_readWall_102 : decode mX6_readWall.cd 102 = .ok (.iload_n 1, 1) := by decide +kernel
theorem dX6_readWall_103 : decode mX6_readWall.cd 103 = .ok (.iconst 0, 1) := by decide +kernel
theorem dX6_readWall_104 : decode mX6_readWall.cd 104 = .ok (.iastore, 1) := by decide +kernel
theorem dX6_readWall_105 : decode mX6_readWall.cd 105 = .ok (.aload_n 0, 1) := by decide +kernel
theorem dX6_readWall_106 : decode mX6_readWall.cd 106 = .ok (.getfield 25, 3) := by decide +kernel
theorem dX6_readWall_109 : decode mX6_readWall.cd 109 = .ok (.getfield 163, 3) := by decide +kernel
theorem dX6_readWall_112 : decode mX6_readWall.cd 112 = .ok (.iload_n 1, 1) := by decide +kernel
theorem dX6_readWall_113 : decode mX6_readWall.cd 113 = .ok (.iconst 1, 1) := by decide +kernel
theorem dX6_readWall_114 : decode mX6_readWall.cd 114 = .ok (.iastore, 1) := by decide +kernel
theorem dX6_readWall_115 : decode mX6_readWall.cd 115 = .ok (.aload_n 0, 1) := by decide +kernel
theorem dX6_readWall_116 : decode mX6_readWall.cd 116 = .ok (.getfield 25, 3) := by decide +kernel
theorem dX6_readWall_119 : decode mX6_readWall.cd 119 = .ok (.dup, 1) := by decide +kernel
theorem dX6_readWall_120 : decode mX6_readWall.cd 120 = .ok (.getfield 151, 3) := by decide +kernel
theorem dX6_readWall_123 : decode mX6_readWall.cd 123 = .ok (.iconst 1, 1) := by decide +kernel
theorem dX6_readWall_124 : decode mX6_readWall.cd 124 = .ok (.iadd, 1) := by decide +kernel
theorem dX6_readWall_125 : decode mX6_readWall.cd 125 = .ok (.putfield 151, 3) := by decide +kernel
theorem dX6_readWall_128 : decode mX6_readWall.cd 128 = .ok (.aload_n 0, 1) := by decide +kernel
theorem dX6_readWall_129 : decode mX6_readWall.cd 129 = .ok (.invokevirtual 53, 3) := by decide +kernel
theorem dX6_readWall_132 : decode mX6_readWall.cd 132 = .ok (.aload_n 0, 1) := by decide +kernel
theorem dX6_readWall_133 : decode mX6_readWall.cd 133 = .ok (.ldc 166, 2) := by decide +kernel
theorem dX6_readWall_135 : decode mX6_readWall.cd 135 = .ok (.invokevirtual 99, 3) := by decide +kernel
theorem dX6_readWall_138 : decode mX6_readWall.cd 138 = .ok (.ifCond .eq 13, 3) := by decide +kernel
theorem dX6_readWall_141 : decode mX6_readWall.cd 141 = .ok (.aload_n 0, 1) := by decide +kernel
theorem dX6_readWall_142 : decode mX6_readWall.cd 142 = .ok (.iload_n 1, 1) := by decide +kernel
theorem dX6_readWall_143 : decode mX6_readWall.cd 143 = .ok (.invokevirtual 167, 3) := by decide +kernel
theorem dX6_readWall_146 : decode mX6_readWall.cd 146 = .ok (.ifCond .ne 5, 3) := by decide +kernel
theorem dX6_readWall_149 : decode mX6_readWall.cd 149 = .ok (.iconst 0, 1) := by decide +kernel
theorem dX6_readWall_150 : decode mX6_readWall.cd 150 = .ok (.ireturn, 1) := by decide +kernel
theorem dX6_readWall_151 : decode mX6_readWall.cd 151 = .ok (.aload_n 0, 1) := by decide +kernel
theorem dX6_readWall_152 : decode mX6_readWall.cd 152 = .ok (.ldc 170, 2) := by decide +kernel
theorem dX6_readWall_154 : decode mX6_readWall.cd 154 = .ok (.invokevirtual 99, 3) := by decide +kernel
theorem dX6_readWall_157 : decode mX6_readWall.cd 157 = .ok (.ifCond .eq 13, 3) := by decide +kernel
theorem dX6_readWall_160 : decode mX6_readWall.cd 160 = .ok (.aload_n 0, 1) := by decide +kernel
theorem dX6_readWall_161 : decode mX6_readWall.cd 161 = .ok (.iload_n 1, 1) := by decide +kernel
theorem dX6_readWall_162 : decode mX6_readWall.cd 162 = .ok (.invokevirtual 171, 3) := by decide +kernel
theorem dX6_readWall_165 : decode mX6_readWall.cd 165 = .ok (.ifCond .ne 5, 3) := by decide +kernel
theorem dX6_readWall_168 : decode mX6_readWall.cd 168 = .ok (.iconst 0, 1) := by decide +kernel
theorem dX6_readWall_169 : decode mX6_readWall.cd 169 = .ok (.ireturn, 1) := by decide +kernel
theorem dX6_readWall_170 : decode mX6_readWall.cd 170 = .ok (.aload_n 0, 1) := by decide +kernel
theorem dX6_readWall_171 : decode mX6_readWall.cd 171 = .ok (.invokevirtual 148, 3) := by decide +kernel
theorem dX6_readWall_174 : decode mX6_readWall.cd 174 = .ok (.ireturn, 1) := by decide +kernel
theorem bX6_readWall_0 {fr M1 M2 b1 b2 : Nat} {Q : RS → Nat → AH → Prop} {h : AH} {x1 x2 : AV} (c1 : cel 137 (h 46 2) (2, 21) := by first | assumption | omega) (r1 : -2147483648 ≤ h (h 46 2) 1 ∧ h (h 46 2) 1 < 2147483648 := by omega) (kt : h (h 46 2) 1 < 6 → Wp mX6_readWall (kR fr M1 M2) Q (b1, b2) 20 [zR 46, zI (h (h 46 2) 1), none] [] 137 h) (kf : 6 ≤ h (h 46 2) 1 → Wp mX6_readWall (kR fr M1 M2) Q (b1, b2) 14 [zR 46, zI (h (h 46 2) 1), none] [] 137 h) : Wp mX6_readWall (kR fr M1 M2) Q (b1, b2) 0 [zR 46, x1, x2] [] 137 h := by
  refine s_fgt (fgt_c (fgt_n _ (fgt_n _ fgt_0))) ?_
  refine s_aload_n (x := 46) dX6_readWall_0 rfl ?_
  refine s_getR (c := 46) dX6_readWall_1 lX6_25 e46 rfl ?_
  refine s_get (c := h 46 2) dX6_readWall_4 lX6_151 c1 (by decide) ?_
  refine s_istore_n dX6_readWall_7 rfl (by decide) ?_
  refine s_iload_n (x := h (h 46 2) 1) dX6_readWall_8 rfl ?_
  refine s_bipush dX6_readWall_9 (by decide) ?_
  exact s_icmp_lt (tgt := 20) dX6_readWall_11 (by decide) r1 ⟨by decide, by decide⟩ kt kf
theorem bX6_readWall_14 {fr M1 M2 b1 b2 : Nat} {Q : RS → Nat → AH → Prop} {h : AH} {x1 x2 : AV} {R : Int → AH → Prop}   (hS : Sp mX6_fail true (fr - 1) 0 0 [zR 46, zI 2] 137 h (rI R)) (hf : 1 ≤ fr := by omega) (kk : ∀ (x : Int) (h' : AH), R x h' → Wp mX6_readWall (kR fr M1 M2) Q (b1, b2) 19 [zR 46, none, none] [zI x] 137 h') : Wp mX6_readWall (kR fr M1 M2) Q (b1, b2) 14 [zR 46, x1, x2] [] 137 h := by
  refine s_fgt (fgt_c (fgt_n _ (fgt_n _ fgt_0))) ?_
  refine s_aload_n (x := 46) dX6_readWall_14 rfl ?_
  refine s_iconst dX6_readWall_15 ?_
  exact s_callV (as := [zI 2]) (st := []) (o := 46) dX6_readWall_16 kX6_86 rfl ⟨6, 12, TX6, e46, rfl, by decide⟩ rfl rfl (Nat.le_of_ble_eq_true rfl) hS (show fr - 1 + 1 ≤ fr by omega) (Nat.zero_le _) (Nat.zero_le _) (fun v n' h' hP _ => by obtain ⟨x, e, rfl, hR⟩ := hP; cases e; exact kk x h' hR) (fun E n' h' _ z => (rI_nt _ _ _ z).elim)
theorem bX6_readWall_19 {fr M1 M2 b1 b2 : Nat} {Q : RS → Nat → AH → Prop} {h : AH} {s0 : Int} {x0 x1 x2 : AV}  (r1 : s0 = 0 ∨ s0 = 1 := by omega) (hq : Q (.inl (some (zI s0))) 137 h) : Wp mX6_readWall (kR fr M1 M2) Q (b1, b2) 19 [x0, x1, x2] [zI s0] 137 h := by
  refine s_fgt (fgt_n _ (fgt_n _ (fgt_n _ fgt_0))) ?_
  exact s_ireturn dX6_readWall_19 ⟨.boolean, rfl, bool_nar r1⟩ hq (fun z => by cases z)
theorem bX6_readWall_20 {fr M1 M2 b1 b2 : Nat} {Q : RS → Nat → AH → Prop} {h : AH} {l1 : Int} {x2 : AV} {R : AH → Prop}   (hS : Sp mX6_step true (fr - 1) 0 0 [zR 46] 137 h (rV R)) (hf : 1 ≤ fr := by omega) (kk : ∀ h' : AH, R h' → Wp mX6_readWall (kR fr M1 M2) Q (b1, b2) 24 [zR 46, zI l1, none] [] 137 h') : Wp mX6_readWall (kR fr M1 M2) Q (b1, b2) 20 [zR 46, zI l1, x2] [] 137 h := by
  refine s_fgt (fgt_c (fgt_c (fgt_n _ fgt_0))) ?_
  refine s_aload_n (x := 46) dX6_readWall_20 rfl ?_
  exact s_callV (as := []) (st := []) (o := 46) dX6_readWall_21 kX6_53 rfl ⟨6, 12, TX6, e46, rfl, by decide⟩ rfl rfl (Nat.le_of_ble_eq_true rfl) hS (show fr - 1 + 1 ≤ fr by omega) (Nat.zero_le _) (Nat.zero_le _) (fun v n' h' hP _ => by obtain ⟨e, rfl, hR⟩ := hP; cases e; exact kk h' hR) (fun E n' h' _ z => (rV_nt _ _ _ z).elim)
theorem bX6_readWall_24 {fr M1 M2 b1 b2 : Nat} {Q : RS → Nat → AH → Prop} {h : AH} {l1 : Int} {x2 : AV}   (kk : Wp mX6_readWall (kR fr M1 M2) Q (b1, b2) 26 [zR 46, zI l1, zI 0] [] 137 h) : Wp mX6_readWall (kR fr M1 M2) Q (b1, b2) 24 [zR 46, zI l1, x2] [] 137 h := by
  refine s_fgt (fgt_c (fgt_c (fgt_n _ fgt_0))) ?_
  refine s_iconst dX6_readWall_24 ?_
  refine s_istore_n dX6_readWall_25 rfl (by decide) ?_
  exact kk
theorem bX6_readWall_26 {fr M1 M2 b1 b2 : Nat} {Q : RS → Nat → AH → Prop} {h : AH} {l1 l2 : Int}  (r1 : -2147483648 ≤ l2 ∧ l2 < 2147483648 := by omega) (kt : 3 ≤ l2 → Wp mX6_readWall (kR fr M1 M2) Q (b1, b2) 70 [zR 46, zI l1, zI l2] [] 137 h) (kf : l2 < 3 → Wp mX6_readWall (kR fr M1 M2) Q (b1, b2) 31 [zR 46, zI l1, zI l2] [] 137 h) : Wp mX6_readWall (kR fr M1 M2) Q (b1, b2) 26 [zR 46, zI l1, zI l2] [] 137 h := by
  refine s_iload_n (x := l2) dX6_readWall_26 rfl ?_
  refine s_iconst dX6_readWall_27 ?_
  exact s_icmp_ge (tgt := 70) dX6_readWall_28 (by decide) r1 ⟨by decide, by decide⟩ kt kf
theorem bX6_readWall_31 {fr M1 M2 b1 b2 : Nat} {Q : RS → Nat → AH → Prop} {h : AH} {l1 l2 : Int} {R : Int → AH → Prop}   (hS : Sp mX6_isNumber true (fr - 1) 0 0 [zR 46, zI 1, zI 40] 137 h (rI R)) (hf : 1 ≤ fr := by omega) (kk : ∀ (x : Int) (h' : AH), R x h' → Wp mX6_readWall (kR fr M1 M2) Q (b1, b2) 38 [zR 46, zI l1, zI l2] [zI x] 137 h') : Wp mX6_readWall (kR fr M1 M2) Q (b1, b2) 31 [zR 46, zI l1, zI l2] [] 137 h := by
  refine s_aload_n (x := 46) dX6_readWall_31 rfl ?_
  refine s_iconst dX6_readWall_32 ?_
  refine s_bipush dX6_readWall_33 (by decide) ?_
  exact s_callV (as := [zI 1, zI 40]) (st := []) (o := 46) dX6_readWall_35 kX6_90 rfl ⟨6, 12, TX6, e46, rfl, by decide⟩ rfl rfl (Nat.le_of_ble_eq_true rfl) hS (show fr - 1 + 1 ≤ fr by omega) (Nat.zero_le _) (Nat.zero_le _) (fun v n' h' hP _ => by obtain ⟨x, e, rfl, hR⟩ := hP; cases e; exact kk x h' hR) (fun E n' h' _ z => (rI_nt _ _ _ z).elim)
theorem bX6_readWall_38 {fr M1 M2 b1 b2 : Nat} {Q : RS → Nat → AH → Prop} {h : AH} {l1 l2 s0 : Int}  (r1 : -2147483648 ≤ s0 ∧ s0 < 2147483648 := by omega) (kt : ¬ s0 = 0 → Wp mX6_readWall (kR fr M1 M2) Q (b1, b2) 43 [zR 46, zI l1, zI l2] [] 137 h) (kf : s0 = 0 → Wp mX6_readWall (kR fr M1 M2) Q (b1, b2) 41 [zR 46, zI l1, zI l2] [] 137 h) : Wp mX6_readWall (kR fr M1 M2) Q (b1, b2) 38 [zR 46, zI l1, zI l2] [zI s0] 137 h := by
  exact s_if_ne (tgt := 43) dX6_readWall_38 (by decide) r1 kt kf
theorem bX6_readWall_41 {fr M1 M2 b1 b2 : Nat} {Q : RS → Nat → AH → Prop} {h : AH} {x0 x1 x2 : AV}   (hq : Q (.inl (some (zI 0))) 137 h) : Wp mX6_readWall (kR fr M1 M2) Q (b1, b2) 41 [x0, x1, x2] [] 137 h := by
  refine s_fgt (fgt_n _ (fgt_n _ (fgt_n _ fgt_0))) ?_
  refine s_iconst dX6_readWall_41 ?_
  exact s_ireturn dX6_readWall_42 ⟨.boolean, rfl, by decide⟩ hq (fun z => by cases z)
theorem bX6_readWall_43 {fr M1 M2 b1 b2 : Nat} {Q : RS → Nat → AH → Prop} {h : AH} {l1 l2 : Int} {R : AH → Prop} (c1 : cel 137 (h 46 2) (2, 21) := by first | assumption | omega) (r1 : 0 ≤ (l1 * 3) + l2 ∧ (l1 * 3) + l2 < 18 := by omega) (hS : Sp mX6_step true (fr - 1) 0 0 [zR 46] 137 (up h ((h 46 2) + 4) ((l1 * 3) + l2) (h 46 6)) (rV R)) (hf : 1 ≤ fr := by omega) (kk : ∀ h' : AH, R h' → Wp mX6_readWall (kR fr M1 M2) Q (b1, b2) 64 [zR 46, zI l1, zI l2] [] 137 h') : Wp mX6_readWall (kR fr M1 M2) Q (b1, b2) 43 [zR 46, zI l1, zI l2] [] 137 h := by
  refine s_aload_n (x := 46) dX6_readWall_43 rfl ?_
  refine s_getR (c := 46) dX6_readWall_44 lX6_25 e46 rfl ?_
  refine s_getFd (c := h 46 2) (d := (h 46 2) + 4) dX6_readWall_47 lX6_154 c1 (Or.inl rfl) rfl (ne0 (fin_X2_10 c1)) ?_
  refine s_iload_n (x := l1) dX6_readWall_50 rfl ?_
  refine s_iconst dX6_readWall_51 ?_
  refine s_imul dX6_readWall_52 ?_
  refine s_iload_n (x := l2) dX6_readWall_53 rfl ?_
  refine s_iadd dX6_readWall_54 ?_
  refine s_aload_n (x := 46) dX6_readWall_55 rfl ?_
  refine s_get (c := 46) dX6_readWall_56 lX6_66 e46 (by decide) ?_
  refine s_iast (c := (h 46 2) + 4) (i := (l1 * 3) + l2) dX6_readWall_59 (fin_X2_10 c1) r1.1 r1.2 ?_
  refine s_aload_n (x := 46) dX6_readWall_60 rfl ?_
  exact s_callV (as := []) (st := []) (o := 46) dX6_readWall_61 kX6_53 rfl ⟨6, 12, TX6, e46, rfl, by decide⟩ rfl rfl (Nat.le_of_ble_eq_true rfl) hS (show fr - 1 + 1 ≤ fr by omega) (Nat.zero_le _) (Nat.zero_le _) (fun v n' h' hP _ => by obtain ⟨e, rfl, hR⟩ := hP; cases e; exact kk h' hR) (fun E n' h' _ z => (rV_nt _ _ _ z).elim)
theorem bX6_readWall_64 {fr M1 M2 b1 b2 : Nat} {Q : RS → Nat → AH → Prop} {h : AH} {l1 l2 : Int}   (kk : Wp mX6_readWall (kR fr M1 M2) Q (b1, b2) 26 [zR 46, zI l1, zI (l2 + 1)] [] 137 h) : Wp mX6_readWall (kR fr M1 M2) Q (b1, b2) 64 [zR 46, zI l1, zI l2] [] 137 h := by
  refine s_iinc (x := l2) dX6_readWall_64 rfl rfl (by decide) ?_
  exact s_goto (tgt := 26) dX6_readWall_67 (by decide) kk
theorem bX6_readWall_70 {fr M1 M2 b1 b2 : Nat} {Q : RS → Nat → AH → Prop} {h : AH} {l1 : Int} {x2 : AV} {R : Int → AH → Prop}   (hS : Sp mX6_isNumber true (fr - 1) 0 0 [zR 46, zI 0, zI 100] 137 h (rI R)) (hf : 1 ≤ fr := by omega) (kk : ∀ (x : Int) (h' : AH), R x h' → Wp mX6_readWall (kR fr M1 M2) Q (b1, b2) 77 [zR 46, zI l1, none] [zI x] 137 h') : Wp mX6_readWall (kR fr M1 M2) Q (b1, b2) 70 [zR 46, zI l1, x2] [] 137 h := by
  refine s_fgt (fgt_c (fgt_c (fgt_n _ fgt_0))) ?_
  refine s_aload_n (x := 46) dX6_readWall_70 rfl ?_
  refine s_iconst dX6_readWall_71 ?_
  refine s_bipush dX6_readWall_72 (by decide) ?_
  exact s_callV (as := [zI 0, zI 100]) (st := []) (o := 46) dX6_readWall_74 kX6_90 rfl ⟨6, 12, TX6, e46, rfl, by decide⟩ rfl rfl (Nat.le_of_ble_eq_true rfl) hS (show fr - 1 + 1 ≤ fr by omega) (Nat.zero_le _) (Nat.zero_le _) (fun v n' h' hP _ => by obtain ⟨x, e, rfl, hR⟩ := hP; cases e; exact kk x h' hR) (fun E n' h' _ z => (rI_nt _ _ _ z).elim)
theorem bX6_readWall_77 {fr M1 M2 b1 b2 : Nat} {Q : RS → Nat → AH → Prop} {h : AH} {l1 s0 : Int} {x2 : AV}  (r1 : -2147483648 ≤ s0 ∧ s0 < 2147483648 := by omega) (kt : ¬ s0 = 0 → Wp mX6_readWall (kR fr M1 M2) Q (b1, b2) 82 [zR 46, zI l1, none] [] 137 h) (kf : s0 = 0 → Wp mX6_readWall (kR fr M1 M2) Q (b1, b2) 80 [zR 46, zI l1, none] [] 137 h) : Wp mX6_readWall (kR fr M1 M2) Q (b1, b2) 77 [zR 46, zI l1, x2] [zI s0] 137 h := by
  refine s_fgt (fgt_c (fgt_c (fgt_n _ fgt_0))) ?_
  exact s_if_ne (tgt := 82) dX6_readWall_77 (by decide) r1 kt kf
theorem bX6_readWall_80 {fr M1 M2 b1 b2 : Nat} {Q : RS → Nat → AH → Prop} {h : AH} {x0 x1 x2 : AV}   (hq : Q (.inl (some (zI 0))) 137 h) : Wp mX6_readWall (kR fr M1 M2) Q (b1, b2) 80 [x0, x1, x2] [] 137 h := by
  refine s_fgt (fgt_n _ (fgt_n _ (fgt_n _ fgt_0))) ?_
  refine s_iconst dX6_readWall_80 ?_
  exact s_ireturn dX6_readWall_81 ⟨.boolean, rfl, by decide⟩ hq (fun z => by cases z)
theorem bX6_readWall_82 {fr M1 M2 b1 b2 : Nat} {Q : RS → Nat → AH → Prop} {h : AH} {l1 : Int} {x2 : AV} {R : AH → Prop} (c1 : cel 137 (h 46 2) (2, 21) := by first | assumption | omega) (c2 : cel 137 ((up h ((h 46 2) + 5) l1 (h 46 6)) 46 2) (2, 21) := by first | assumption | omega) (c3 : cel 137 ((up (up h ((h 46 2) + 5) l1 (h 46 6)) (((up h ((h 46 2) + 5) l1 (h 46 6)) 46 2) + 6) l1 0) 46 2) (2, 21) := by first | assumption | omega) (c4 : cel 137 ((up (up (up h ((h 46 2) + 5) l1 (h 46 6)) (((up h ((h 46 2) + 5) l1 (h 46 6)) 46 2) + 6) l1 0) (((up (up h ((h 46 2) + 5) l1 (h 46 6)) (((up h ((h 46 2) + 5) l1 (h 46 6)) 46 2) + 6) l1 0) 46 2) + 7) l1 1) 46 2) (2, 21) := by first | assumption | omega) (r1 : 0 ≤ l1 ∧ l1 < 6 := by omega) (hS : Sp mX6_step true (fr - 1) 0 0 [zR 46] 137 (up (up (up (up h ((h 46 2) + 5) l1 (h 46 6)) (((up h ((h 46 2) + 5) l1 (h 46 6)) 46 2) + 6) l1 0) (((up (up h ((h 46 2) + 5) l1 (h 46 6)) (((up h ((h 46 2) + 5) l1 (h 46 6)) 46 2) + 6) l1 0) 46 2) + 7) l1 1) ((up (up (up h ((h 46 2) + 5) l1 (h 46 6)) (((up h ((h 46 2) + 5) l1 (h 46 6)) 46 2) + 6) l1 0) (((up (up h ((h 46 2) + 5) l1 (h 46 6)) (((up h ((h 46 2) + 5) l1 (h 46 6)) 46 2) + 6) l1 0) 46 2) + 7) l1 1) 46 2) 1 (((up (up (up h ((h 46 2) + 5) l1 (h 46 6)) (((up h ((h 46 2) + 5) l1 (h 46 6)) 46 2) + 6) l1 0) (((up (up h ((h 46 2) + 5) l1 (h 46 6)) (((up h ((h 46 2) + 5) l1 (h 46 6)) 46 2) + 6) l1 0) 46 2) + 7) l1 1) ((up (up (up h ((h 46 2) + 5) l1 (h 46 6)) (((up h ((h 46 2) + 5) l1 (h 46 6)) 46 2) + 6) l1 0) (((up (up h ((h 46 2) + 5) l1 (h 46 6)) (((up h ((h 46 2) + 5) l1 (h 46 6)) 46 2) + 6) l1 0) 46 2) + 7) l1 1) 46 2) 1) + 1)) (rV R)) (hf : 1 ≤ fr := by omega) (kk : ∀ h' : AH, R h' → Wp mX6_readWall (kR fr M1 M2) Q (b1, b2) 132 [zR 46, zI l1, none] [] 137 h') : Wp mX6_readWall (kR fr M1 M2) Q (b1, b2) 82 [zR 46, zI l1, x2] [] 137 h := by
  refine s_fgt (fgt_c (fgt_c (fgt_n _ fgt_0))) ?_
  refine s_aload_n (x := 46) dX6_readWall_82 rfl ?_
  refine s_getR (c := 46) dX6_readWall_83 lX6_25 e46 rfl ?_
  refine s_getFd (c := h 46 2) (d := (h 46 2) + 5) dX6_readWall_86 lX6_157 c1 (Or.inl rfl) rfl (ne0 (fin_X2_11 c1)) ?_
  refine s_iload_n (x := l1) dX6_readWall_89 rfl ?_
  refine s_aload_n (x := 46) dX6_readWall_90 rfl ?_
  refine s_get (c := 46) dX6_readWall_91 lX6_66 e46 (by decide) ?_
  refine s_iast (c := (h 46 2) + 5) (i := l1) dX6_readWall_94 (fin_X2_11 c1) r1.1 r1.2 ?_
  refine s_aload_n (x := 46) dX6_readWall_95 rfl ?_
  refine s_getR (c := 46) dX6_readWall_96 lX6_25 e46 rfl ?_
  refine s_getFd (c := (up h ((h 46 2) + 5) l1 (h 46 6)) 46 2) (d := ((up h ((h 46 2) + 5) l1 (h 46 6)) 46 2) + 6) dX6_readWall_99 lX6_160 c2 (Or.inl rfl) rfl (ne0 (fin_X2_12 c2)) ?_
  refine s_iload_n (x := l1) dX6_readWall_102 rfl ?_
  refine s_iconst dX6_readWall_103 ?_
  refine s_iast (c := ((up h ((h 46 2) + 5) l1 (h 46 6)) 46 2) + 6) (i := l1) dX6_readWall_104 (fin_X2_12 c2) r1.1 r1.2 ?_
  refine s_aload_n (x := 46) dX6_readWall_105 rfl ?_
  refine s_getR (c := 46) dX6_readWall_106 lX6_25 e46 rfl ?_
  refine s_getFd (c := (up (up h ((h 46 2) + 5) l1 (h 46 6)) (((up h ((h 46 2) + 5) l1 (h 46 6)) 46 2) + 6) l1 0) 46 2) (d := ((up (up h ((h 46 2) + 5) l1 (h 46 6)) (((up h ((h 46 2) + 5) l1 (h 46 6)) 46 2) + 6) l1 0) 46 2) + 7) dX6_readWall_109 lX6_163 c3 (Or.inl rfl) rfl (ne0 (fin_X2_13 c3)) ?_
  refine s_iload_n (x := l1) dX6_readWall_112 rfl ?_
  refine s_iconst dX6_readWall_113 ?_
  refine s_iast (c := ((up (up h ((h 46 2) + 5) l1 (h 46 6)) (((up h ((h 46 2) + 5) l1 (h 46 6)) 46 2) + 6) l1 0) 46 2) + 7) (i := l1) dX6_readWall_114 (fin_X2_13 c3) r1.1 r1.2 ?_
  refine s_aload_n (x := 46) dX6_readWall_115 rfl ?_
  refine s_getR (c := 46) dX6_readWall_116 lX6_25 e46 rfl ?_
  refine s_dup dX6_readWall_119 rfl ?_
  refine s_get (c := (up (up (up h ((h 46 2) + 5) l1 (h 46 6)) (((up h ((h 46 2) + 5) l1 (h 46 6)) 46 2) + 6) l1 0) (((up (up h ((h 46 2) + 5) l1 (h 46 6)) (((up h ((h 46 2) + 5) l1 (h 46 6)) 46 2) + 6) l1 0) 46 2) + 7) l1 1) 46 2) dX6_readWall_120 lX6_151 c4 (by decide) ?_
  refine s_iconst dX6_readWall_123 ?_
  refine s_iadd dX6_readWall_124 ?_
  refine s_put (c := (up (up (up h ((h 46 2) + 5) l1 (h 46 6)) (((up h ((h 46 2) + 5) l1 (h 46 6)) 46 2) + 6) l1 0) (((up (up h ((h 46 2) + 5) l1 (h 46 6)) (((up h ((h 46 2) + 5) l1 (h 46 6)) 46 2) + 6) l1 0) 46 2) + 7) l1 1) 46 2) dX6_readWall_125 lX6_151 c4 ?_
  refine s_aload_n (x := 46) dX6_readWall_128 rfl ?_
  exact s_callV (as := []) (st := []) (o := 46) dX6_readWall_129 kX6_53 rfl ⟨6, 12, TX6, e46, rfl, by decide⟩ rfl rfl (Nat.le_of_ble_eq_true rfl) hS (show fr - 1 + 1 ≤ fr by omega) (Nat.zero_le _) (Nat.zero_le _) (fun v n' h' hP _ => by obtain ⟨e, rfl, hR⟩ := hP; cases e; exact kk h' hR) (fun E n' h' _ z => (rV_nt _ _ _ z).elim)
theorem bX6_readWall_132 {fr M1 M2 b1 b2 : Nat} {Q : RS → Nat → AH → Prop} {h : AH} {l1 : Int} {x2 : AV} {R : Int → AH → Prop}   (hS : Sp mX6_spells true (fr - 1) 0 0 [zR 46, zR (-3)] 137 h (rI R)) (hf : 1 ≤ fr := by omega) (kk : ∀ (x : Int) (h' : AH), R x h' → Wp mX6_readWall (kR fr M1 M2) Q (b1, b2) 138 [zR 46, zI l1, none] [zI x] 137 h') : Wp mX6_readWall (kR fr M1 M2) Q (b1, b2) 132 [zR 46, zI l1, x2] [] 137 h := by
  refine s_fgt (fgt_c (fgt_c (fgt_n _ fgt_0))) ?_
  refine s_aload_n (x := 46) dX6_readWall_132 rfl ?_
  refine s_ldcS (i := 2) (tx := "swallows") dX6_readWall_133 rfl rfl ?_
  exact s_callV (as := [zR (-3)]) (st := []) (o := 46) dX6_readWall_135 kX6_99 rfl ⟨6, 12, TX6, e46, rfl, by decide⟩ rfl rfl (Nat.le_of_ble_eq_true rfl) hS (show fr - 1 + 1 ≤ fr by omega) (Nat.zero_le _) (Nat.zero_le _) (fun v n' h' hP _ => by obtain ⟨x, e, rfl, hR⟩ := hP; cases e; exact kk x h' hR) (fun E n' h' _ z => (rI_nt _ _ _ z).elim)
theorem bX6_readWall_138 {fr M1 M2 b1 b2 : Nat} {Q : RS → Nat → AH → Prop} {h : AH} {l1 s0 : Int} {x2 : AV}  (r1 : -2147483648 ≤ s0 ∧ s0 < 2147483648 := by omega) (kt : s0 = 0 → Wp mX6_readWall (kR fr M1 M2) Q (b1, b2) 151 [zR 46, zI l1, none] [] 137 h) (kf : ¬ s0 = 0 → Wp mX6_readWall (kR fr M1 M2) Q (b1, b2) 141 [zR 46, zI l1, none] [] 137 h) : Wp mX6_readWall (kR fr M1 M2) Q (b1, b2) 138 [zR 46, zI l1, x2] [zI s0] 137 h := by
  refine s_fgt (fgt_c (fgt_c (fgt_n _ fgt_0))) ?_
  exact s_if_eq (tgt := 151) dX6_readWall_138 (by decide) r1 kt kf
theorem bX6_readWall_141 {fr M1 M2 b1 b2 : Nat} {Q : RS → Nat → AH → Prop} {h : AH} {l1 : Int} {x2 : AV} {R : Int → AH → Prop}   (hS : Sp mX6_readSwallows true (fr - 1) 0 0 [zR 46, zI l1] 137 h (rI R)) (hf : 1 ≤ fr := by omega) (kk : ∀ (x : Int) (h' : AH), R x h' → Wp mX6_readWall (kR fr M1 M2) Q (b1, b2) 146 [zR 46, zI l1, none] [zI x] 137 h') : Wp mX6_readWall (kR fr M1 M2) Q (b1, b2) 141 [zR 46, zI l1, x2] [] 137 h := by
  refine s_fgt (fgt_c (fgt_c (fgt_n _ fgt_0))) ?_
  refine s_aload_n (x := 46) dX6_readWall_141 rfl ?_
  refine s_iload_n (x := l1) dX6_readWall_142 rfl ?_
  exact s_callV (as := [zI l1]) (st := []) (o := 46) dX6_readWall_143 kX6_167 rfl ⟨6, 12, TX6, e46, rfl, by decide⟩ rfl rfl (Nat.le_of_ble_eq_true rfl) hS (show fr - 1 + 1 ≤ fr by omega) (Nat.zero_le _) (Nat.zero_le _) (fun v n' h' hP _ => by obtain ⟨x, e, rfl, hR⟩ := hP; cases e; exact kk x h' hR) (fun E n' h' _ z => (rI_nt _ _ _ z).elim)
theorem bX6_readWall_146 {fr M1 M2 b1 b2 : Nat} {Q : RS → Nat → AH → Prop} {h : AH} {l1 s0 : Int} {x2 : AV}  (r1 : -2147483648 ≤ s0 ∧ s0 < 2147483648 := by omega) (kt : ¬ s0 = 0 → Wp mX6_readWall (kR fr M1 M2) Q (b1, b2) 151 [zR 46, zI l1, none] [] 137 h) (kf : s0 = 0 → Wp mX6_readWall (kR fr M1 M2) Q (b1, b2) 149 [zR 46, zI l1, none] [] 137 h) : Wp mX6_readWall (kR fr M1 M2) Q (b1, b2) 146 [zR 46, zI l1, x2] [zI s0] 137 h := by
  refine s_fgt (fgt_c (fgt_c (fgt_n _ fgt_0))) ?_
  exact s_if_ne (tgt := 151) dX6_readWall_146 (by decide) r1 kt kf
theorem bX6_readWall_149 {fr M1 M2 b1 b2 : Nat} {Q : RS → Nat → AH → Prop} {h : AH} {x0 x1 x2 : AV}   (hq : Q (.inl (some (zI 0))) 137 h) : Wp mX6_readWall (kR fr M1 M2) Q (b1, b2) 149 [x0, x1, x2] [] 137 h := by
  refine s_fgt (fgt_n _ (fgt_n _ (fgt_n _ fgt_0))) ?_
  refine s_iconst dX6_readWall_149 ?_
  exact s_ireturn dX6_readWall_150 ⟨.boolean, rfl, by decide⟩ hq (fun z => by cases z)
theorem bX6_readWall_151 {fr M1 M2 b1 b2 : Nat} {Q : RS → Nat → AH → Prop} {h : AH} {l1 : Int} {x2 : AV} {R : Int → AH → Prop}   (hS : Sp mX6_spells true (fr - 1) 0 0 [zR 46, zR (-4)] 137 h (rI R)) (hf : 1 ≤ fr := by omega) (kk : ∀ (x : Int) (h' : AH), R x h' → Wp mX6_readWall (kR fr M1 M2) Q (b1, b2) 157 [zR 46, zI l1, none] [zI x] 137 h') : Wp mX6_readWall (kR fr M1 M2) Q (b1, b2) 151 [zR 46, zI l1, x2] [] 137 h := by
  refine s_fgt (fgt_c (fgt_c (fgt_n _ fgt_0))) ?_
  refine s_aload_n (x := 46) dX6_readWall_151 rfl ?_
  refine s_ldcS (i := 3) (tx := "again") dX6_readWall_152 rfl rfl ?_
  exact s_callV (as := [zR (-4)]) (st := []) (o := 46) dX6_readWall_154 kX6_99 rfl ⟨6, 12, TX6, e46, rfl, by decide⟩ rfl rfl (Nat.le_of_ble_eq_true rfl) hS (show fr - 1 + 1 ≤ fr by omega) (Nat.zero_le _) (Nat.zero_le _) (fun v n' h' hP _ => by obtain ⟨x, e, rfl, hR⟩ := hP; cases e; exact kk x h' hR) (fun E n' h' _ z => (rI_nt _ _ _ z).elim)
theorem bX6_readWall_157 {fr M1 M2 b1 b2 : Nat} {Q : RS → Nat → AH → Prop} {h : AH} {l1 s0 : Int} {x2 : AV}  (r1 : -2147483648 ≤ s0 ∧ s0 < 2147483648 := by omega) (kt : s0 = 0 → Wp mX6_readWall (kR fr M1 M2) Q (b1, b2) 170 [zR 46, zI l1, none] [] 137 h) (kf : ¬ s0 = 0 → Wp mX6_readWall (kR fr M1 M2) Q (b1, b2) 160 [zR 46, zI l1, none] [] 137 h) : Wp mX6_readWall (kR fr M1 M2) Q (b1, b2) 157 [zR 46, zI l1, x2] [zI s0] 137 h := by
  refine s_fgt (fgt_c (fgt_c (fgt_n _ fgt_0))) ?_
  exact s_if_eq (tgt := 170) dX6_readWall_157 (by decide) r1 kt kf
theorem bX6_readWall_160 {fr M1 M2 b1 b2 : Nat} {Q : RS → Nat → AH → Prop} {h : AH} {l1 : Int} {x2 : AV} {R : Int → AH → Prop}   (hS : Sp mX6_readAgain true (fr - 1) 0 0 [zR 46, zI l1] 137 h (rI R)) (hf : 1 ≤ fr := by omega) (kk : ∀ (x : Int) (h' : AH), R x h' → Wp mX6_readWall (kR fr M1 M2) Q (b1, b2) 165 [zR 46, zI l1, none] [zI x] 137 h') : Wp mX6_readWall (kR fr M1 M2) Q (b1, b2) 160 [zR 46, zI l1, x2] [] 137 h := by
  refine s_fgt (fgt_c (fgt_c (fgt_n _ fgt_0))) ?_
  refine s_aload_n (x := 46) dX6_readWall_160 rfl ?_
  refine s_iload_n (x := l1) dX6_readWall_161 rfl ?_
  exact s_callV (as := [zI l1]) (st := []) (o := 46) dX6_readWall_162 kX6_171 rfl ⟨6, 12, TX6, e46, rfl, by decide⟩ rfl rfl (Nat.le_of_ble_eq_true rfl) hS (show fr - 1 + 1 ≤ fr by omega) (Nat.zero_le _) (Nat.zero_le _) (fun v n' h' hP _ => by obtain ⟨x, e, rfl, hR⟩ := hP; cases e; exact kk x h' hR) (fun E n' h' _ z => (rI_nt _ _ _ z).elim)
theorem bX6_readWall_165 {fr M1 M2 b1 b2 : Nat} {Q : RS → Nat → AH → Prop} {h : AH} {s0 : Int} {x1 x2 : AV}  (r1 : -2147483648 ≤ s0 ∧ s0 < 2147483648 := by omega) (kt : ¬ s0 = 0 → Wp mX6_readWall (kR fr M1 M2) Q (b1, b2) 170 [zR 46, none, none] [] 137 h) (kf : s0 = 0 → Wp mX6_readWall (kR fr M1 M2) Q (b1, b2) 168 [zR 46, none, none] [] 137 h) : Wp mX6_readWall (kR fr M1 M2) Q (b1, b2) 165 [zR 46, x1, x2] [zI s0] 137 h := by
  refine s_fgt (fgt_c (fgt_n _ (fgt_n _ fgt_0))) ?_
  exact s_if_ne (tgt := 170) dX6_readWall_165 (by decide) r1 kt kf
theorem bX6_readWall_168 {fr M1 M2 b1 b2 : Nat} {Q : RS → Nat → AH → Prop} {h : AH} {x0 x1 x2 : AV}   (hq : Q (.inl (some (zI 0))) 137 h) : Wp mX6_readWall (kR fr M1 M2) Q (b1, b2) 168 [x0, x1, x2] [] 137 h := by
  refine s_fgt (fgt_n _ (fgt_n _ (fgt_n _ fgt_0))) ?_
  refine s_iconst dX6_readWall_168 ?_
  exact s_ireturn dX6_readWall_169 ⟨.boolean, rfl, by decide⟩ hq (fun z => by cases z)
theorem bX6_readWall_170 {fr M1 M2 b1 b2 : Nat} {Q : RS → Nat → AH → Prop} {h : AH} {x1 x2 : AV} {R : Int → AH → Prop}   (hS : Sp mX6_readEnd true (fr - 1) 0 0 [zR 46] 137 h (rI R)) (hf : 1 ≤ fr := by omega) (kk : ∀ (x : Int) (h' : AH), R x h' → Wp mX6_readWall (kR fr M1 M2) Q (b1, b2) 174 [zR 46, none, none] [zI x] 137 h') : Wp mX6_readWall (kR fr M1 M2) Q (b1, b2) 170 [zR 46, x1, x2] [] 137 h := by
  refine s_fgt (fgt_c (fgt_n _ (fgt_n _ fgt_0))) ?_
  refine s_aload_n (x := 46) dX6_readWall_170 rfl ?_
  exact s_callV (as := []) (st := []) (o := 46) dX6_readWall_171 kX6_148 rfl ⟨6, 12, TX6, e46, rfl, by decide⟩ rfl rfl (Nat.le_of_ble_eq_true rfl) hS (show fr - 1 + 1 ≤ fr by omega) (Nat.zero_le _) (Nat.zero_le _) (fun v n' h' hP _ => by obtain ⟨x, e, rfl, hR⟩ := hP; cases e; exact kk x h' hR) (fun E n' h' _ z => (rI_nt _ _ _ z).elim)
theorem bX6_readWall_174 {fr M1 M2 b1 b2 : Nat} {Q : RS → Nat → AH → Prop} {h : AH} {s0 : Int} {x0 x1 x2 : AV}  (r1 : s0 = 0 ∨ s0 = 1 := by omega) (hq : Q (.inl (some (zI s0))) 137 h) : Wp mX6_readWall (kR fr M1 M2) Q (b1, b2) 174 [x0, x1, x2] [zI s0] 137 h := by
  refine s_fgt (fgt_n _ (fgt_n _ (fgt_n _ fgt_0))) ?_
  exact s_ireturn dX6_readWall_174 ⟨.boolean, rfl, bool_nar r1⟩ hq (fun z => by cases z)
theorem dX6_readSwallows_0 : decode mX6_readSwallows.cd 0 = .ok (.aload_n 0, 1) := by decide +kernel
theorem dX6_readSwallows_1 : decode mX6_readSwallows.cd 1 = .ok (.invokevirtual 53, 3) := by decide +kernel
theorem dX6_readSwallows_4 : decode mX6_readSwallows.cd 4 = .ok (.iconst 0, 1) := by decide +kernel
theorem dX6_readSwallows_5 : decode mX6_readSwallows.cd 5 = .ok (.istore_n 2, 1) := by decide +kernel
theorem dX6_readSwallows_6 : decode mX6_readSwallows.cd 6 = .ok (.iload_n 2, 1) := by decide +kernel
theorem dX6_readSwallows_7 : decode mX6_readSwallows.cd 7 = .ok (.iconst 4, 1) := by decide +kernel
theorem dX6_readSwallows_8 : decode mX6_readSwallows.cd 8 = .ok (.if_icmp .gt 79, 3) := by decide +kernel
theorem dX6_readSwallows_11 : decode mX6_readSwallows.cd 11 = .ok (.iload_n 2, 1) := by decide +kernel
theorem dX6_readSwallows_12 : decode mX6_readSwallows.cd 12 = .ok (.ifCond .eq 11, 3) := by decide +kernel
theorem dX6_readSwallows_15 : decode mX6_readSwallows.cd 15 = .ok (.aload_n 0, 1) := by decide +kernel
theorem dX6_readSwallows_16 : decode mX6_readSwallows.cd 16 = .ok (.getfield 56, 3) := by decide +kernel
theorem dX6_readSwallows_19 : decode mX6_readSwallows.cd 19 = .ok (.iconst 2, 1) := by decide +kernel
theorem dX6_readSwallows_20 : decode mX6_readSwallows.cd 20 = .ok (.if_icmp .ne 67, 3) := by decide +kernel
theorem dX6_readSwallows_23 : decode mX6_readSwallows.cd 23 = .ok (.aload_n 0, 1) := by decide +kernel
theorem dX6_readSwallows_24 : decode mX6_readSwallows.cd 24 = .ok (.iconst 0, 1) := by decide +kernel
theorem dX6_readSwallows_25 : decode mX6_readSwallows.cd 25 = .ok (.iconst 3, 1) := by decide +kernel
theorem dX6_readSwallows_26 : decode mX6_readSwallows.cd 26 = .ok (.invokevirtual 90, 3) := by decide +kernel
theorem dX6_readSwallows_29 : decode mX6_readSwallows.cd 29 = .ok (.ifCond .ne 5, 3) := by decide +kernel
theorem dX6_readSwallows_32 : decode mX6_readSwallows.cd 32 = .ok (.iconst 0, 1) := by decide +kernel
theorem dX6_readSwallows_33 : decode mX6_readSwallows.cd 33 = .ok (.ireturn, 1) := by decide +kernel
theorem dX6_readSwallows_34 : decode mX6_readSwallows.cd 34 = .ok (.aload_n 0, 1) := by decide +kernel
theorem dX6_readSwallows_35 : decode mX6_readSwallows.cd 35 = .ok (.getfield 25, 3) := by decide +kernel
theorem dX6_readSwallows_38 : decode mX6_readSwallows.cd 38 = .ok (.getfield 160, 3) := by decide +kernel
theorem dX6_readSwallows_41 : decode mX6_readSwallows.cd 41 = .ok (.iload_n 1, 1) := by decide +kernel
theorem dX6_readSwallows_42 : decode mX6_readSwallows.cd 42 = .ok (.iaload, 1) := by decide +kernel
theorem dX6_readSwallows_43 : decode mX6_readSwallows.cd 43 = .ok (.aload_n 0, 1) := by decide +kernel
theorem dX6_readSwallows_44 : decode mX6_readSwallows.cd 44 = .ok (.getfield 66, 3) := by decide +kernel
theorem dX6_readSwallows_47 : decode mX6_readSwallows.cd 47 = .ok (.ishr, 1) := by decide +kernel
theorem dX6_readSwallows_48 : decode mX6_readSwallows.cd 48 = .ok (.iconst 1, 1) := by decide +kernel
theorem dX6_readSwallows_49 : decode mX6_readSwallows.cd 49 = .ok (.iand, 1) := by decide +kernel
theorem dX6_readSwallows_50 : decode mX6_readSwallows.cd 50 = .ok (.ifCond .eq 9, 3) := by decide +kernel
theorem dX6_readSwallows_53 : decode mX6_readSwallows.cd 53 = .ok (.aload_n 0, 1) := by decide +kernel
theorem dX6_readSwallows_54 : decode mX6_readSwallows.cd 54 = .ok (.iconst 4, 1) := by decide +kernel
theorem dX6_readSwallows_55 : decode mX6_readSwallows.cd 55 = .ok (.invokevirtual 86, 3) := by decide +kernel
theorem dX6_readSwallows_58 : decode mX6_readSwallows.cd 58 = .ok (.ireturn, 1) := by decide +kernel
theorem dX6_readSwallows_59 : decode mX6_readSwallows.cd 59 = .ok (.aload_n 0, 1) := by decide +kernel
theorem dX6_readSwallows_60 : decode mX6_readSwallows.cd 60 = .ok (.getfield 25, 3) := by decide +kernel
theorem dX6_readSwallows_63 : decode mX6_readSwallows.cd 63 = .ok (.getfield 160, 3) := by decide +kernel
theorem dX6_readSwallows_66 : decode mX6_readSwallows.cd 66 = .ok (.iload_n 1, 1) := by decide +kernel
theorem dX6_readSwallows_67 : decode mX6_readSwallows.cd 67 = .ok (.dup2, 1) := by decide +kernel
theorem dX6_readSwallows_68 : decode mX6_readSwallows.cd 68 = .ok (.iaload, 1) := by decide +kernel
theorem dX6_readSwallows_69 : decode mX6_readSwallows.cd 69 = .ok (.iconst 1, 1) := by decide +kernel
theorem dX6_readSwallows_70 : decode mX6_readSwallows.cd 70 = .ok (.aload_n 0, 1) := by decide +kernel
theorem dX6_readSwallows_71 : decode mX6_readSwallows.cd 71 = .ok (.getfield 66, 3) := by decide +kernel
theorem dX6_readSwallows_74 : decode mX6_readSwallows.cd 74 = .ok (.ishl, 1) := by decide +kernel
theorem dX6_readSwallows_75 : decode mX6_readSwallows.cd 75 = .ok (.ior, 1) := by decide +kernel
theorem dX6_readSwallows_76 : decode mX6_readSwallows.cd 76 = .ok (.iastore, 1) := by decide +kernel
theorem dX6_readSwallows_77 : decode mX6_readSwallows.cd 77 = .ok (.aload_n 0, 1) := by decide +kernel
theorem dX6_readSwallows_78 : decode mX6_readSwallows.cd 78 = .ok (.invokevirtual 53, 3) := by decide +kernel
theorem dX6_readSwallows_81 : decode mX6_readSwallows.cd 81 = .ok (.iinc 2 1, 3) := by decide +kernel
theorem dX6_readSwallows_84 : decode mX6_readSwallows.cd 84 = .ok (.goto (-78), 3) := by decide +kernel
theorem dX6_readSwallows_87 : decode mX6_readSwallows.cd 87 = .ok (.iconst 1, 1) := by decide +kernel
theorem dX6_readSwallows_88 : decode mX6_readSwallows.cd 88 = .ok (.ireturn, 1) := by decide +kernel
theorem bX6_readSwallows_0 {fr M1 M2 b1 b2 : Nat} {Q : RS → Nat → AH → Prop} {h : AH} {l1 : Int} {x2 : AV} {R : AH → Prop}   (hS : Sp mX6_step true (fr - 1) 0 0 [zR 46] 137 h (rV R)) (hf : 1 ≤ fr := by omega) (kk : ∀ h' : AH, R h' → Wp mX6_readSwallows (kR fr M1 M2) Q (b1, b2) 4 [zR 46, zI l1, none] [] 137 h') : Wp mX6_readSwallows (kR fr M1 M2) Q (b1, b2) 0 [zR 46, zI l1, x2] [] 137 h := by
  refine s_fgt (fgt_c (fgt_c (fgt_n _ fgt_0))) ?_
  refine s_aload_n (x := 46) dX6_readSwallows_0 rfl ?_
  exact s_callV (as := []) (st := []) (o := 46) dX6_readSwallows_1 kX6_53 rfl ⟨6, 12, TX6, e46, rfl, by decide⟩ rfl rfl (Nat.le_of_ble_eq_true rfl) hS (show fr - 1 + 1 ≤ fr by omega) (Nat.zero_le _) (Nat.zero_le _) (fun v n' h' hP _ => by obtain ⟨e, rfl, hR⟩ := hP; cases e; exact kk h' hR) (fun E n' h' _ z => (rV_nt _ _ _ z).elim)
theorem bX6_readSwallows_4 {fr M1 M2 b1 b2 : Nat} {Q : RS → Nat → AH → Prop} {h : AH} {l1 : Int} {x2 : AV}   (kk : Wp mX6_readSwallows (kR fr M1 M2) Q (b1, b2) 6 [zR 46, zI l1, zI 0] [] 137 h) : Wp mX6_readSwallows (kR fr M1 M2) Q (b1, b2) 4 [zR 46, zI l1, x2] [] 137 h := by
  refine s_fgt (fgt_c (fgt_c (fgt_n _ fgt_0))) ?_
  refine s_iconst dX6_readSwallows_4 ?_
  refine s_istore_n dX6_readSwallows_5 rfl (by decide) ?_
  exact kk
theorem bX6_readSwallows_6 {fr M1 M2 b1 b2 : Nat} {Q : RS → Nat → AH → Prop} {h : AH} {l1 l2 : Int}  (r1 : -2147483648 ≤ l2 ∧ l2 < 2147483648 := by omega) (kt : 4 < l2 → Wp mX6_readSwallows (kR fr M1 M2) Q (b1, b2) 87 [zR 46, zI l1, zI l2] [] 137 h) (kf : l2 ≤ 4 → Wp mX6_readSwallows (kR fr M1 M2) Q (b1, b2) 11 [zR 46, zI l1, zI l2] [] 137 h) : Wp mX6_readSwallows (kR fr M1 M2) Q (b1, b2) 6 [zR 46, zI l1, zI l2] [] 137 h := by
  refine s_iload_n (x := l2) dX6_readSwallows_6 rfl ?_
  refine s_iconst dX6_readSwallows_7 ?_
  exact s_icmp_gt (tgt := 87) dX6_readSwallows_8 (by decide) r1 ⟨by decide, by decide⟩ kt kf
theorem bX6_readSwallows_11 {fr M1 M2 b1 b2 : Nat} {Q : RS → Nat → AH → Prop} {h : AH} {l1 l2 : Int}  (r1 : -2147483648 ≤ l2 ∧ l2 < 2147483648 := by omega) (kt : l2 = 0 → Wp mX6_readSwallows (kR fr M1 M2) Q (b1, b2) 23 [zR 46, zI l1, zI l2] [] 137 h) (kf : ¬ l2 = 0 → Wp mX6_readSwallows (kR fr M1 M2) Q (b1, b2) 15 [zR 46, zI l1, zI l2] [] 137 h) : Wp mX6_readSwallows (kR fr M1 M2) Q (b1, b2) 11 [zR 46, zI l1, zI l2] [] 137 h := by
  refine s_iload_n (x := l2) dX6_readSwallows_11 rfl ?_
  exact s_if_eq (tgt := 23) dX6_readSwallows_12 (by decide) r1 kt kf
theorem bX6_readSwallows_15 {fr M1 M2 b1 b2 : Nat} {Q : RS → Nat → AH → Prop} {h : AH} {l1 l2 : Int}  (r1 : -2147483648 ≤ h 46 3 ∧ h 46 3 < 2147483648 := by omega) (kt : ¬ h 46 3 = 2 → Wp mX6_readSwallows (kR fr M1 M2) Q (b1, b2) 87 [zR 46, zI l1, zI l2] [] 137 h) (kf : h 46 3 = 2 → Wp mX6_readSwallows (kR fr M1 M2) Q (b1, b2) 23 [zR 46, zI l1, zI l2] [] 137 h) : Wp mX6_readSwallows (kR fr M1 M2) Q (b1, b2) 15 [zR 46, zI l1, zI l2] [] 137 h := by
  refine s_aload_n (x := 46) dX6_readSwallows_15 rfl ?_
  refine s_get (c := 46) dX6_readSwallows_16 lX6_56 e46 (by decide) ?_
  refine s_iconst dX6_readSwallows_19 ?_
  exact s_icmp_ne (tgt := 87) dX6_readSwallows_20 (by decide) r1 ⟨by decide, by decide⟩ kt kf
theorem bX6_readSwallows_23 {fr M1 M2 b1 b2 : Nat} {Q : RS → Nat → AH → Prop} {h : AH} {l1 l2 : Int} {R : Int → AH → Prop}   (hS : Sp mX6_isNumber true (fr - 1) 0 0 [zR 46, zI 0, zI 3] 137 h (rI R)) (hf : 1 ≤ fr := by omega) (kk : ∀ (x : Int) (h' : AH), R x h' → Wp mX6_readSwallows (kR fr M1 M2) Q (b1, b2) 29 [zR 46, zI l1, zI l2] [zI x] 137 h') : Wp mX6_readSwallows (kR fr M1 M2) Q (b1, b2) 23 [zR 46, zI l1, zI l2] [] 137 h := by
  refine s_aload_n (x := 46) dX6_readSwallows_23 rfl ?_
  refine s_iconst dX6_readSwallows_24 ?_
  refine s_iconst dX6_readSwallows_25 ?_
  exact s_callV (as := [zI 0, zI 3]) (st := []) (o := 46) dX6_readSwallows_26 kX6_90 rfl ⟨6, 12, TX6, e46, rfl, by decide⟩ rfl rfl (Nat.le_of_ble_eq_true rfl) hS (show fr - 1 + 1 ≤ fr by omega) (Nat.zero_le _) (Nat.zero_le _) (fun v n' h' hP _ => by obtain ⟨x, e, rfl, hR⟩ := hP; cases e; exact kk x h' hR) (fun E n' h' _ z => (rI_nt _ _ _ z).elim)
theorem bX6_readSwallows_29 {fr M1 M2 b1 b2 : Nat} {Q : RS → Nat → AH → Prop} {h : AH} {l1 l2 s0 : Int}  (r1 : -2147483648 ≤ s0 ∧ s0 < 2147483648 := by omega) (kt : ¬ s0 = 0 → Wp mX6_readSwallows (kR fr M1 M2) Q (b1, b2) 34 [zR 46, zI l1, zI l2] [] 137 h) (kf : s0 = 0 → Wp mX6_readSwallows (kR fr M1 M2) Q (b1, b2) 32 [zR 46, zI l1, zI l2] [] 137 h) : Wp mX6_readSwallows (kR fr M1 M2) Q (b1, b2) 29 [zR 46, zI l1, zI l2] [zI s0] 137 h := by
  exact s_if_ne (tgt := 34) dX6_readSwallows_29 (by decide) r1 kt kf
theorem bX6_readSwallows_32 {fr M1 M2 b1 b2 : Nat} {Q : RS → Nat → AH → Prop} {h : AH} {x0 x1 x2 : AV}   (hq : Q (.inl (some (zI 0))) 137 h) : Wp mX6_readSwallows (kR fr M1 M2) Q (b1, b2) 32 [x0, x1, x2] [] 137 h := by
  refine s_fgt (fgt_n _ (fgt_n _ (fgt_n _ fgt_0))) ?_
  refine s_iconst dX6_readSwallows_32 ?_
  exact s_ireturn dX6_readSwallows_33 ⟨.boolean, rfl, by decide⟩ hq (fun z => by cases z)
theorem bX6_readSwallows_34 {fr M1 M2 b1 b2 : Nat} {Q : RS → Nat → AH → Prop} {h : AH} {l1 l2 : Int} (c1 : cel 137 (h 46 2) (2, 21) := by first | assumption | omega) (r1 : 0 ≤ l1 ∧ l1 < 6 := by omega) (r2 : 0 ≤ h 46 6 ∧ h 46 6 < 32 := by omega) (r3 : -2147483648 ≤ h ((h 46 2) + 6) l1 ∧ h ((h 46 2) + 6) l1 < 2147483648 := by omega) (r4 : -2147483648 ≤ bAnd ((h ((h 46 2) + 6) l1) / 2 ^ (h 46 6).toNat) 1 ∧ bAnd ((h ((h 46 2) + 6) l1) / 2 ^ (h 46 6).toNat) 1 < 2147483648 := by omega) (kt : bAnd ((h ((h 46 2) + 6) l1) / 2 ^ (h 46 6).toNat) 1 = 0 → Wp mX6_readSwallows (kR fr M1 M2) Q (b1, b2) 59 [zR 46, zI l1, zI l2] [] 137 h) (kf : ¬ bAnd ((h ((h 46 2) + 6) l1) / 2 ^ (h 46 6).toNat) 1 = 0 → Wp mX6_readSwallows (kR fr M1 M2) Q (b1, b2) 53 [zR 46, zI l1, zI l2] [] 137 h) : Wp mX6_readSwallows (kR fr M1 M2) Q (b1, b2) 34 [zR 46, zI l1, zI l2] [] 137 h := by
  refine s_aload_n (x := 46) dX6_readSwallows_34 rfl ?_
  refine s_getR (c := 46) dX6_readSwallows_35 lX6_25 e46 rfl ?_
  refine s_getFd (c := h 46 2) (d := (h 46 2) + 6) dX6_readSwallows_38 lX6_160 c1 (Or.inl rfl) rfl (ne0 (fin_X2_12 c1)) ?_
  refine s_iload_n (x := l1) dX6_readSwallows_41 rfl ?_
  refine s_iald (c := (h 46 2) + 6) (i := l1) dX6_readSwallows_42 (fin_X2_12 c1) r1.1 r1.2 ?_
  refine s_aload_n (x := 46) dX6_readSwallows_43 rfl ?_
  refine s_get (c := 46) dX6_readSwallows_44 lX6_66 e46 (by decide) ?_
  refine s_ishrN dX6_readSwallows_47 r3 r2.1 r2.2 ?_
  refine s_iconst dX6_readSwallows_48 ?_
  refine s_iand dX6_readSwallows_49 ?_
  exact s_if_eq (tgt := 59) dX6_readSwallows_50 (by decide) r4 kt kf
theorem bX6_readSwallows_53 {fr M1 M2 b1 b2 : Nat} {Q : RS → Nat → AH → Prop} {h : AH} {x1 x2 : AV} {R : Int → AH → Prop}   (hS : Sp mX6_fail true (fr - 1) 0 0 [zR 46, zI 4] 137 h (rI R)) (hf : 1 ≤ fr := by omega) (kk : ∀ (x : Int) (h' : AH), R x h' → Wp mX6_readSwallows (kR fr M1 M2) Q (b1, b2) 58 [zR 46, none, none] [zI x] 137 h') : Wp mX6_readSwallows (kR fr M1 M2) Q (b1, b2) 53 [zR 46, x1, x2] [] 137 h := by
  refine s_fgt (fgt_c (fgt_n _ (fgt_n _ fgt_0))) ?_
  refine s_aload_n (x := 46) dX6_readSwallows_53 rfl ?_
  refine s_iconst dX6_readSwallows_54 ?_
  exact s_callV (as := [zI 4]) (st := []) (o := 46) dX6_readSwallows_55 kX6_86 rfl ⟨6, 12, TX6, e46, rfl, by decide⟩ rfl rfl (Nat.le_of_ble_eq_true rfl) hS (show fr - 1 + 1 ≤ fr by omega) (Nat.zero_le _) (Nat.zero_le _) (fun v n' h' hP _ => by obtain ⟨x, e, rfl, hR⟩ := hP; cases e; exact kk x h' hR) (fun E n' h' _ z => (rI_nt _ _ _ z).elim)
theorem bX6_readSwallows_58 {fr M1 M2 b1 b2 : Nat} {Q : RS → Nat → AH → Prop} {h : AH} {s0 : Int} {x0 x1 x2 : AV}  (r1 : s0 = 0 ∨ s0 = 1 := by omega) (hq : Q (.inl (some (zI s0))) 137 h) : Wp mX6_readSwallows (kR fr M1 M2) Q (b1, b2) 58 [x0, x1, x2] [zI s0] 137 h := by
  refine s_fgt (fgt_n _ (fgt_n _ (fgt_n _ fgt_0))) ?_
  exact s_ireturn dX6_readSwallows_58 ⟨.boolean, rfl, bool_nar r1⟩ hq (fun z => by cases z)
theorem bX6_readSwallows_59 {fr M1 M2 b1 b2 : Nat} {Q : RS → Nat → AH → Prop} {h : AH} {l1 l2 : Int} {R : AH → Prop} (c1 : cel 137 (h 46 2) (2, 21) := by first | assumption | omega) (r1 : 0 ≤ l1 ∧ l1 < 6 := by omega) (r2 : 0 ≤ h 46 6 ∧ h 46 6 < 32 := by omega) (hS : Sp mX6_step true (fr - 1) 0 0 [zR 46] 137 (up h ((h 46 2) + 6) l1 (bOr (h ((h 46 2) + 6) l1) (1 * 2 ^ (h 46 6).toNat))) (rV R)) (hf : 1 ≤ fr := by omega) (kk : ∀ h' : AH, R h' → Wp mX6_readSwallows (kR fr M1 M2) Q (b1, b2) 81 [zR 46, zI l1, zI l2] [] 137 h') : Wp mX6_readSwallows (kR fr M1 M2) Q (b1, b2) 59 [zR 46, zI l1, zI l2] [] 137 h := by
  refine s_aload_n (x := 46) dX6_readSwallows_59 rfl ?_
  refine s_getR (c := 46) dX6_readSwallows_60 lX6_25 e46 rfl ?_
  refine s_getFd (c := h 46 2) (d := (h 46 2) + 6) dX6_readSwallows_63 lX6_160 c1 (Or.inl rfl) rfl (ne0 (fin_X2_12 c1)) ?_
  refine s_iload_n (x := l1) dX6_readSwallows_66 rfl ?_
  refine s_dup2 dX6_readSwallows_67 rfl rfl ?_
  refine s_iald (c := (h 46 2) + 6) (i := l1) dX6_readSwallows_68 (fin_X2_12 c1) r1.1 r1.2 ?_
  refine s_iconst dX6_readSwallows_69 ?_
  refine s_aload_n (x := 46) dX6_readSwallows_70 rfl ?_
  refine s_get (c := 46) dX6_readSwallows_71 lX6_66 e46 (by decide) ?_
  refine s_ishlN dX6_readSwallows_74 r2.1 r2.2 ?_
  refine s_ior dX6_readSwallows_75 ?_
  refine s_iast (c := (h 46 2) + 6) (i := l1) dX6_readSwallows_76 (fin_X2_12 c1) r1.1 r1.2 ?_
  refine s_aload_n (x := 46) dX6_readSwallows_77 rfl ?_
  exact s_callV (as := []) (st := []) (o := 46) dX6_readSwallows_78 kX6_53 rfl ⟨6, 12, TX6, e46, rfl, by decide⟩ rfl rfl (Nat.le_of_ble_eq_true rfl) hS (show fr - 1 + 1 ≤ fr by omega) (Nat.zero_le _) (Nat.zero_le _) (fun v n' h' hP _ => by obtain ⟨e, rfl, hR⟩ := hP; cases e; exact kk h' hR) (fun E n' h' _ z => (rV_nt _ _ _ z).elim)
theorem bX6_readSwallows_81 {fr M1 M2 b1 b2 : Nat} {Q : RS → Nat → AH → Prop} {h : AH} {l1 l2 : Int}   (kk : Wp mX6_readSwallows (kR fr M1 M2) Q (b1, b2) 6 [zR 46, zI l1, zI (l2 + 1)] [] 137 h) : Wp mX6_readSwallows (kR fr M1 M2) Q (b1, b2) 81 [zR 46, zI l1, zI l2] [] 137 h := by
  refine s_iinc (x := l2) dX6_readSwallows_81 rfl rfl (by decide) ?_
  exact s_goto (tgt := 6) dX6_readSwallows_84 (by decide) kk
theorem bX6_readSwallows_87 {fr M1 M2 b1 b2 : Nat} {Q : RS → Nat → AH → Prop} {h : AH} {x0 x1 x2 : AV}   (hq : Q (.inl (some (zI 1))) 137 h) : Wp mX6_readSwallows (kR fr M1 M2) Q (b1, b2) 87 [x0, x1, x2] [] 137 h := by
  refine s_fgt (fgt_n _ (fgt_n _ (fgt_n _ fgt_0))) ?_
  refine s_iconst dX6_readSwallows_87 ?_
  exact s_ireturn dX6_readSwallows_88 ⟨.boolean, rfl, by decide⟩ hq (fun z => by cases z)
theorem dX6_readAgain_0 : decode mX6_readAgain.cd 0 = .ok (.aload_n 0, 1) := by decide +kernel
theorem dX6_readAgain_1 : decode mX6_readAgain.cd 1 = .ok (.invokevirtual 53, 3) := by decide +kernel
theorem dX6_readAgain_4 : decode mX6_readAgain.cd 4 = .ok (.aload_n 0, 1) := by decide +kernel
theorem dX6_readAgain_5 : decode mX6_readAgain.cd 5 = .ok (.iconst 1, 1) := by decide +kernel
theorem dX6_readAgain_6 : decode mX6_readAgain.cd 6 = .ok (.iconst 3, 1) := by decide +kernel
theorem dX6_readAgain_7 : decode mX6_readAgain.cd 7 = .ok (.invokevirtual 90, 3) := by decide +kernel
theorem dX6_readAgain_10 : decode mX6_readAgain.cd 10 = .ok (.ifCond .ne 5, 3) := by decide +kernel
theorem dX6_readAgain_13 : decode mX6_readAgain.cd 13 = .ok (.iconst 0, 1) := by decide +kernel
theorem dX6_readAgain_14 : decode mX6_readAgain.cd 14 = .ok (.ireturn, 1) := by decide +kernel
theorem dX6_readAgain_15 : decode mX6_readAgain.cd 15 = .ok (.aload_n 0, 1) := by decide +kernel
theorem dX6_readAgain_16 : decode mX6_readAgain.cd 16 = .ok (.getfield 25, 3) := by decide +kernel
theorem dX6_readAgain_19 : decode mX6_readAgain.cd 19 = .ok (.getfield 163, 3) := by decide +kernel
theorem dX6_readAgain_22 : decode mX6_readAgain.cd 22 = .ok (.iload_n 1, 1) := by decide +kernel
theorem dX6_readAgain_23 : decode mX6_readAgain.cd 23 = .ok (.aload_n 0, 1) := by decide +kernel
theorem dX6_readAgain_24 : decode mX6_readAgain.cd 24 = .ok (.getfield 66, 3) := by decide +kernel
theorem dX6_readAgain_27 : decode mX6_readAgain.cd 27 = .ok (.iastore, 1) := by decide +kernel
theorem dX6_readAgain_28 : decode mX6_readAgain.cd 28 = .ok (.aload_n 0, 1) := by decide +kernel
theorem dX6_readAgain_29 : decode mX6_readAgain.cd 29 = .ok (.invokevirtual 53, 3) := by decide +kernel
theorem dX6_readAgain_32 : decode mX6_readAgain.cd 32 = .ok (.iconst 1, 1) := by decide +kernel
theorem dX6_readAgain_33 : decode mX6_readAgain.cd 33 = .ok (.ireturn, 1) := by decide +kernel
theorem bX6_readAgain_0 {fr M1 M2 b1 b2 : Nat} {Q : RS → Nat → AH → Prop} {h : AH} {l1 : Int} {R : AH → Prop}   (hS : Sp mX6_step true (fr - 1) 0 0 [zR 46] 137 h (rV R)) (hf : 1 ≤ fr := by omega) (kk : ∀ h' : AH, R h' → Wp mX6_readAgain (kR fr M1 M2) Q (b1, b2) 4 [zR 46, zI l1] [] 137 h') : Wp mX6_readAgain (kR fr M1 M2) Q (b1, b2) 0 [zR 46, zI l1] [] 137 h := by
  refine s_aload_n (x := 46) dX6_readAgain_0 rfl ?_
  exact s_callV (as := []) (st := []) (o := 46) dX6_readAgain_1 kX6_53 rfl ⟨6, 12, TX6, e46, rfl, by decide⟩ rfl rfl (Nat.le_of_ble_eq_true rfl) hS (show fr - 1 + 1 ≤ fr by omega) (Nat.zero_le _) (Nat.zero_le _) (fun v n' h' hP _ => by obtain ⟨e, rfl, hR⟩ := hP; cases e; exact kk h' hR) (fun E n' h' _ z => (rV_nt _ _ _ z).elim)
theorem bX6_readAgain_4 {fr M1 M2 b1 b2 : Nat} {Q : RS → Nat → AH → Prop} {h : AH} {l1 : Int} {R : Int → AH → Prop}   (hS : Sp mX6_isNumber true (fr - 1) 0 0 [zR 46, zI 1, zI 3] 137 h (rI R)) (hf : 1 ≤ fr := by omega) (kk : ∀ (x : Int) (h' : AH), R x h' → Wp mX6_readAgain (kR fr M1 M2) Q (b1, b2) 10 [zR 46, zI l1] [zI x] 137 h') : Wp mX6_readAgain (kR fr M1 M2) Q (b1, b2) 4 [zR 46, zI l1] [] 137 h := by
  refine s_aload_n (x := 46) dX6_readAgain_4 rfl ?_
  refine s_iconst dX6_readAgain_5 ?_
  refine s_iconst dX6_readAgain_6 ?_
  exact s_callV (as := [zI 1, zI 3]) (st := []) (o := 46) dX6_readAgain_7 kX6_90 rfl ⟨6, 12, TX6, e46, rfl, by decide⟩ rfl rfl (Nat.le_of_ble_eq_true rfl) hS (show fr - 1 + 1 ≤ fr by omega) (Nat.zero_le _) (Nat.zero_le _) (fun v n' h' hP _ => by obtain ⟨x, e, rfl, hR⟩ := hP; cases e; exact kk x h' hR) (fun E n' h' _ z => (rI_nt _ _ _ z).elim)
theorem bX6_readAgain_10 {fr M1 M2 b1 b2 : Nat} {Q : RS → Nat → AH → Prop} {h : AH} {l1 s0 : Int}  (r1 : -2147483648 ≤ s0 ∧ s0 < 2147483648 := by omega) (kt : ¬ s0 = 0 → Wp mX6_readAgain (kR fr M1 M2) Q (b1, b2) 15 [zR 46, zI l1] [] 137 h) (kf : s0 = 0 → Wp mX6_readAgain (kR fr M1 M2) Q (b1, b2) 13 [zR 46, zI l1] [] 137 h) : Wp mX6_readAgain (kR fr M1 M2) Q (b1, b2) 10 [zR 46, zI l1] [zI s0] 137 h := by
  exact s_if_ne (tgt := 15) dX6_readAgain_10 (by decide) r1 kt kf
theorem bX6_readAgain_13 {fr M1 M2 b1 b2 : Nat} {Q : RS → Nat → AH → Prop} {h : AH} {x0 x1 : AV}   (hq : Q (.inl (some (zI 0))) 137 h) : Wp mX6_readAgain (kR fr M1 M2) Q (b1, b2) 13 [x0, x1] [] 137 h := by
  refine s_fgt (fgt_n _ (fgt_n _ fgt_0)) ?_
  refine s_iconst dX6_readAgain_13 ?_
  exact s_ireturn dX6_readAgain_14 ⟨.boolean, rfl, by decide⟩ hq (fun z => by cases z)
theorem bX6_readAgain_15 {fr M1 M2 b1 b2 : Nat} {Q : RS → Nat → AH → Prop} {h : AH} {l1 : Int} {R : AH → Prop} (c1 : cel 137 (h 46 2) (2, 21) := by first | assumption | omega) (r1 : 0 ≤ l1 ∧ l1 < 6 := by omega) (hS : Sp mX6_step true (fr - 1) 0 0 [zR 46] 137 (up h ((h 46 2) + 7) l1 (h 46 6)) (rV R)) (hf : 1 ≤ fr := by omega) (kk : ∀ h' : AH, R h' → Wp mX6_readAgain (kR fr M1 M2) Q (b1, b2) 32 [zR 46, zI l1] [] 137 h') : Wp mX6_readAgain (kR fr M1 M2) Q (b1, b2) 15 [zR 46, zI l1] [] 137 h := by
  refine s_aload_n (x := 46) dX6_readAgain_15 rfl ?_
  refine s_getR (c := 46) dX6_readAgain_16 lX6_25 e46 rfl ?_
  refine s_getFd (c := h 46 2) (d := (h 46 2) + 7) dX6_readAgain_19 lX6_163 c1 (Or.inl rfl) rfl (ne0 (fin_X2_13 c1)) ?_
  refine s_iload_n (x := l1) dX6_readAgain_22 rfl ?_
  refine s_aload_n (x := 46) dX6_readAgain_23 rfl ?_
  refine s_get (c := 46) dX6_readAgain_24 lX6_66 e46 (by decide) ?_
  refine s_iast (c := (h 46 2) + 7) (i := l1) dX6_readAgain_27 (fin_X2_13 c1) r1.1 r1.2 ?_
  refine s_aload_n (x := 46) dX6_readAgain_28 rfl ?_
  exact s_callV (as := []) (st := []) (o := 46) dX6_readAgain_29 kX6_53 rfl ⟨6, 12, TX6, e46, rfl, by decide⟩ rfl rfl (Nat.le_of_ble_eq_true rfl) hS (show fr - 1 + 1 ≤ fr by omega) (Nat.zero_le _) (Nat.zero_le _) (fun v n' h' hP _ => by obtain ⟨e, rfl, hR⟩ := hP; cases e; exact kk h' hR) (fun E n' h' _ z => (rV_nt _ _ _ z).elim)
theorem bX6_readAgain_32 {fr M1 M2 b1 b2 : Nat} {Q : RS → Nat → AH → Prop} {h : AH} {x0 x1 : AV}   (hq : Q (.inl (some (zI 1))) 137 h) : Wp mX6_readAgain (kR fr M1 M2) Q (b1, b2) 32 [x0, x1] [] 137 h := by
  refine s_fgt (fgt_n _ (fgt_n _ fgt_0)) ?_
  refine s_iconst dX6_readAgain_32 ?_
  exact s_ireturn dX6_readAgain_33 ⟨.boolean, rfl, by decide⟩ hq (fun z => by cases z)
theorem dX6_readStraight_0 : decode mX6_readStraight.cd 0 = .ok (.aload_n 0, 1) := by decide +kernel
theorem dX6_readStraight_1 : decode mX6_readStraight.cd 1 = .ok (.getfield 40, 3) := by decide +kernel
theorem dX6_readStraight_4 : decode mX6_readStraight.cd 4 = .ok (.ifCond .eq 9, 3) := by decide +kernel
theorem dX6_readStraight_7 : decode mX6_readStraight.cd 7 = .ok (.aload_n 0, 1) := by decide +kernel
theorem dX6_readStraight_8 : decode mX6_readStraight.cd 8 = .ok (.iconst 5, 1) := by decide +kernel
theorem dX6_readStraight_9 : decode mX6_readStraight.cd 9 = .ok (.invokevirtual 86, 3) := by decide +kernel
theorem dX6_readStraight_12 : decode mX6_readStraight.cd 12 = .ok (.ireturn, 1) := by decide +kernel
theorem dX6_readStraight_13 : decode mX6_readStraight.cd 13 = .ok (.aload_n 0, 1) := by decide +kernel
theorem dX6_readStraight_14 : decode mX6_readStraight.cd 14 = .ok (.iconst 1, 1) := by decide +kernel
theorem dX6_readStraight_15 : decode mX6_readStraight.cd 15 = .ok (.putfield 40, 3) := by decide +kernel
theorem dX6_readStraight_18 : decode mX6_readStraight.cd 18 = .ok (.aload_n 0, 1) := by decide +kernel
theorem dX6_readStraight_19 : decode mX6_readStraight.cd 19 = .ok (.invokevirtual 53, 3) := by decide +kernel
theorem dX6_readStraight_22 : decode mX6_readStraight.cd 22 = .ok (.iconst 1, 1) := by decide +kernel
theorem dX6_readStraight_23 : decode mX6_readStraight.cd 23 = .ok (.istore_n 1, 1) := by decide +kernel
theorem dX6_readStraight_24 : decode mX6_readStraight.cd 24 = .ok (.iload_n 1, 1) := by decide +kernel
theorem dX6_readStraight_25 : decode mX6_readStraight.cd 25 = .ok (.iconst 3, 1) := by decide +kernel
theorem dX6_readStraight_26 : decode mX6_readStraight.cd 26 = .ok (.if_icmp .ge 38, 3) := by decide +kernel
theorem dX6_readStraight_29 : decode mX6_readStraight.cd 29 = .ok (.aload_n 0, 1) := by decide +kernel
theorem dX6_readStraight_30 : decode mX6_readStraight.cd 30 = .ok (.iconst 0, 1) := by decide +kernel
theorem dX6_readStraight_31 : decode mX6_readStraight.cd 31 = .ok (.bipush 40, 2) := by decide +kernel
theorem dX6_readStraight_33 : decode mX6_readStraight.cd 33 = .ok (.invokevirtual 90, 3) := by decide +kernel
theorem dX6_readStraight_36 : decode mX6_readStraight.cd 36 = .ok (.ifCond .ne 5, 3) := by decide +kernel
theorem dX6_readStraight_39 : decode mX6_readStraight.cd 39 = .ok (.iconst 0, 1) := by decide +kernel
theorem dX6_readStraight_40 : decode mX6_readStraight.cd 40 = .ok (.ireturn, 1) := by decide +kernel
theorem dX6_readStraight_41 : decode mX6_readStraight.cd 41 = .ok (.aload_n 0, 1) := by decide +kernel
theorem dX6_readStraight_42 : decode mX6_readStraight.cd 42 = .ok (.getfield 25, 3) := by decide +kernel
theorem dX6_readStraight_45 : decode mX6_readStraight.cd 45 = .ok (.getfield 174, 3) := by decide +kernel
theorem dX6_readStraight_48 : decode mX6_readStraight.cd 48 = .ok (.iload_n 1, 1) := by decide +kernel
theorem dX6_readStraight_49 : decode mX6_readStraight.cd 49 = .ok (.aload_n 0, 1) := by decide +kernel
theorem dX6_readStraight_50 : decode mX6_readStraight.cd 50 = .ok (.getfield 66, 3) := by decide +kernel
theorem dX6_readStraight_53 : decode mX6_readStraight.cd 53 = .ok (.iastore, 1) := by decide +kernel
theorem dX6_readStraight_54 : decode mX6_readStraight.cd 54 = .ok (.aload_n 0, 1) := by decide +kernel
theorem dX6_readStraight_55 : decode mX6_readStraight.cd 55 = .ok (.invokevirtual 53, 3) := by decide +kernel
theorem dX6_readStraight_58 : decode mX6_readStraight.cd 58 = .ok (.iinc 1 1, 3) := by decide +kernel
theorem dX6_readStraight_61 : decode mX6_readStraight.cd 61 = .ok (.goto (-37), 3) := by decide +kernel
theorem dX6_readStraight_64 : decode mX6_readStraight.cd 64 = .ok (.aload_n 0, 1) := by decide +kernel
theorem dX6_readStraight_65 : decode mX6_readStraight.cd 65 = .ok (.invokevirtual 148, 3) := by decide +kernel
theorem dX6_readStraight_68 : decode mX6_readStraight.cd 68 = .ok (.ireturn, 1) := by decide +kernel
theorem bX6_readStraight_0 {fr M1 M2 b1 b2 : Nat} {Q : RS → Nat → AH → Prop} {h : AH} {x1 : AV}  (r1 : -2147483648 ≤ h 46 8 ∧ h 46 8 < 2147483648 := by omega) (kt : h 46 8 = 0 → Wp mX6_readStraight (kR fr M1 M2) Q (b1, b2) 13 [zR 46, none] [] 137 h) (kf : ¬ h 46 8 = 0 → Wp mX6_readStraight (kR fr M1 M2) Q (b1, b2) 7 [zR 46, none] [] 137 h) : Wp mX6_readStraight (kR fr M1 M2) Q (b1, b2) 0 [zR 46, x1] [] 137 h := by
  refine s_fgt (fgt_c (fgt_n _ fgt_0)) ?_
  refine s_aload_n (x := 46) dX6_readStraight_0 rfl ?_
  refine s_get (c := 46) dX6_readStraight_1 lX6_40 e46 (by decide) ?_
  exact s_if_eq (tgt := 13) dX6_readStraight_4 (by decide) r1 kt kf
theorem bX6_readStraight_7 {fr M1 M2 b1 b2 : Nat} {Q : RS → Nat → AH → Prop} {h : AH} {x1 : AV} {R : Int → AH → Prop}   (hS : Sp mX6_fail true (fr - 1) 0 0 [zR 46, zI 5] 137 h (rI R)) (hf : 1 ≤ fr := by omega) (kk : ∀ (x : Int) (h' : AH), R x h' → Wp mX6_readStraight (kR fr M1 M2) Q (b1, b2) 12 [zR 46, none] [zI x] 137 h') : Wp mX6_readStraight (kR fr M1 M2) Q (b1, b2) 7 [zR 46, x1] [] 137 h := by
  refine s_fgt (fgt_c (fgt_n _ fgt_0)) ?_
  refine s_aload_n (x := 46) dX6_readStraight_7 rfl ?_
  refine s_iconst dX6_readStraight_8 ?_
  exact s_callV (as := [zI 5]) (st := []) (o := 46) dX6_readStraight_9 kX6_86 rfl ⟨6, 12, TX6, e46, rfl, by decide⟩ rfl rfl (Nat.le_of_ble_eq_true rfl) hS (show fr - 1 + 1 ≤ fr by omega) (Nat.zero_le _) (Nat.zero_le _) (fun v n' h' hP _ => by obtain ⟨x, e, rfl, hR⟩ := hP; cases e; exact kk x h' hR) (fun E n' h' _ z => (rI_nt _ _ _ z).elim)
theorem bX6_readStraight_12 {fr M1 M2 b1 b2 : Nat} {Q : RS → Nat → AH → Prop} {h : AH} {s0 : Int} {x0 x1 : AV}  (r1 : s0 = 0 ∨ s0 = 1 := by omega) (hq : Q (.inl (some (zI s0))) 137 h) : Wp mX6_readStraight (kR fr M1 M2) Q (b1, b2) 12 [x0, x1] [zI s0] 137 h := by
  refine s_fgt (fgt_n _ (fgt_n _ fgt_0)) ?_
  exact s_ireturn dX6_readStraight_12 ⟨.boolean, rfl, bool_nar r1⟩ hq (fun z => by cases z)
theorem bX6_readStraight_13 {fr M1 M2 b1 b2 : Nat} {Q : RS → Nat → AH → Prop} {h : AH} {x1 : AV} {R : AH → Prop}   (hS : Sp mX6_step true (fr - 1) 0 0 [zR 46] 137 (up h 46 8 1) (rV R)) (hf : 1 ≤ fr := by omega) (kk : ∀ h' : AH, R h' → Wp mX6_readStraight (kR fr M1 M2) Q (b1, b2) 22 [zR 46, none] [] 137 h') : Wp mX6_readStraight (kR fr M1 M2) Q (b1, b2) 13 [zR 46, x1] [] 137 h := by
  refine s_fgt (fgt_c (fgt_n _ fgt_0)) ?_
  refine s_aload_n (x := 46) dX6_readStraight_13 rfl ?_
  refine s_iconst dX6_readStraight_14 ?_
  refine s_putZ (c := 46) dX6_readStraight_15 lX6_40 e46 (by decide) ?_
  refine s_aload_n (x := 46) dX6_readStraight_18 rfl ?_
  exact s_callV (as := []) (st := []) (o := 46) dX6_readStraight_19 kX6_53 rfl ⟨6, 12, TX6, e46, rfl, by decide⟩ rfl rfl (Nat.le_of_ble_eq_true rfl) hS (show fr - 1 + 1 ≤ fr by omega) (Nat.zero_le _) (Nat.zero_le _) (fun v n' h' hP _ => by obtain ⟨e, rfl, hR⟩ := hP; cases e; exact kk h' hR) (fun E n' h' _ z => (rV_nt _ _ _ z).elim)
theorem bX6_readStraight_22 {fr M1 M2 b1 b2 : Nat} {Q : RS → Nat → AH → Prop} {h : AH} {x1 : AV}   (kk : Wp mX6_readStraight (kR fr M1 M2) Q (b1, b2) 24 [zR 46, zI 1] [] 137 h) : Wp mX6_readStraight (kR fr M1 M2) Q (b1, b2) 22 [zR 46, x1] [] 137 h := by
  refine s_fgt (fgt_c (fgt_n _ fgt_0)) ?_
  refine s_iconst dX6_readStraight_22 ?_
  refine s_istore_n dX6_readStraight_23 rfl (by decide) ?_
  exact kk
theorem bX6_readStraight_24 {fr M1 M2 b1 b2 : Nat} {Q : RS → Nat → AH → Prop} {h : AH} {l1 : Int}  (r1 : -2147483648 ≤ l1 ∧ l1 < 2147483648 := by omega) (kt : 3 ≤ l1 → Wp mX6_readStraight (kR fr M1 M2) Q (b1, b2) 64 [zR 46, zI l1] [] 137 h) (kf : l1 < 3 → Wp mX6_readStraight (kR fr M1 M2) Q (b1, b2) 29 [zR 46, zI l1] [] 137 h) : Wp mX6_readStraight (kR fr M1 M2) Q (b1, b2) 24 [zR 46, zI l1] [] 137 h := by
  refine s_iload_n (x := l1) dX6_readStraight_24 rfl ?_
  refine s_iconst dX6_readStraight_25 ?_
  exact s_icmp_ge (tgt := 64) dX6_readStraight_26 (by decide) r1 ⟨by decide, by decide⟩ kt kf
theorem bX6_readStraight_29 {fr M1 M2 b1 b2 : Nat} {Q : RS → Nat → AH → Prop} {h : AH} {l1 : Int} {R : Int → AH → Prop}   (hS : Sp mX6_isNumber true (fr - 1) 0 0 [zR 46, zI 0, zI 40] 137 h (rI R)) (hf : 1 ≤ fr := by omega) (kk : ∀ (x : Int) (h' : AH), R x h' → Wp mX6_readStraight (kR fr M1 M2) Q (b1, b2) 36 [zR 46, zI l1] [zI x] 137 h') : Wp mX6_readStraight (kR fr M1 M2) Q (b1, b2) 29 [zR 46, zI l1] [] 137 h := by
  refine s_aload_n (x := 46) dX6_readStraight_29 rfl ?_
  refine s_iconst dX6_readStraight_30 ?_
  refine s_bipush dX6_readStraight_31 (by decide) ?_
  exact s_callV (as := [zI 0, zI 40]) (st := []) (o := 46) dX6_readStraight_33 kX6_90 rfl ⟨6, 12, TX6, e46, rfl, by decide⟩ rfl rfl (Nat.le_of_ble_eq_true rfl) hS (show fr - 1 + 1 ≤ fr by omega) (Nat.zero_le _) (Nat.zero_le _) (fun v n' h' hP _ => by obtain ⟨x, e, rfl, hR⟩ := hP; cases e; exact kk x h' hR) (fun E n' h' _ z => (rI_nt _ _ _ z).elim)
theorem bX6_readStraight_36 {fr M1 M2 b1 b2 : Nat} {Q : RS → Nat → AH → Prop} {h : AH} {l1 s0 : Int}  (r1 : -2147483648 ≤ s0 ∧ s0 < 2147483648 := by omega) (kt : ¬ s0 = 0 → Wp mX6_readStraight (kR fr M1 M2) Q (b1, b2) 41 [zR 46, zI l1] [] 137 h) (kf : s0 = 0 → Wp mX6_readStraight (kR fr M1 M2) Q (b1, b2) 39 [zR 46, zI l1] [] 137 h) : Wp mX6_readStraight (kR fr M1 M2) Q (b1, b2) 36 [zR 46, zI l1] [zI s0] 137 h := by
  exact s_if_ne (tgt := 41) dX6_readStraight_36 (by decide) r1 kt kf
theorem bX6_readStraight_39 {fr M1 M2 b1 b2 : Nat} {Q : RS → Nat → AH → Prop} {h : AH} {x0 x1 : AV}   (hq : Q (.inl (some (zI 0))) 137 h) : Wp mX6_readStraight (kR fr M1 M2) Q (b1, b2) 39 [x0, x1] [] 137 h := by
  refine s_fgt (fgt_n _ (fgt_n _ fgt_0)) ?_
  refine s_iconst dX6_readStraight_39 ?_
  exact s_ireturn dX6_readStraight_40 ⟨.boolean, rfl, by decide⟩ hq (fun z => by cases z)
theorem bX6_readStraight_41 {fr M1 M2 b1 b2 : Nat} {Q : RS → Nat → AH → Prop} {h : AH} {l1 : Int} {R : AH → Prop} (c1 : cel 137 (h 46 2) (2, 21) := by first | assumption | omega) (r1 : 0 ≤ l1 ∧ l1 < 3 := by omega) (hS : Sp mX6_step true (fr - 1) 0 0 [zR 46] 137 (up h ((h 46 2) + 8) l1 (h 46 6)) (rV R)) (hf : 1 ≤ fr := by omega) (kk : ∀ h' : AH, R h' → Wp mX6_readStraight (kR fr M1 M2) Q (b1, b2) 58 [zR 46, zI l1] [] 137 h') : Wp mX6_readStraight (kR fr M1 M2) Q (b1, b2) 41 [zR 46, zI l1] [] 137 h := by
  refine s_aload_n (x := 46) dX6_readStraight_41 rfl ?_
  refine s_getR (c := 46) dX6_readStraight_42 lX6_25 e46 rfl ?_
  refine s_getFd (c := h 46 2) (d := (h 46 2) + 8) dX6_readStraight_45 lX6_174 c1 (Or.inl rfl) rfl (ne0 (fin_X2_14 c1)) ?_
  refine s_iload_n (x := l1) dX6_readStraight_48 rfl ?_
  refine s_aload_n (x := 46) dX6_readStraight_49 rfl ?_
  refine s_get (c := 46) dX6_readStraight_50 lX6_66 e46 (by decide) ?_
  refine s_iast (c := (h 46 2) + 8) (i := l1) dX6_readStraight_53 (fin_X2_14 c1) r1.1 r1.2 ?_
  refine s_aload_n (x := 46) dX6_readStraight_54 rfl ?_
  exact s_callV (as := []) (st := []) (o := 46) dX6_readStraight_55 kX6_53 rfl ⟨6, 12, TX6, e46, rfl, by decide⟩ rfl rfl (Nat.le_of_ble_eq_true rfl) hS (show fr - 1 + 1 ≤ fr by omega) (Nat.zero_le _) (Nat.zero_le _) (fun v n' h' hP _ => by obtain ⟨e, rfl, hR⟩ := hP; cases e; exact kk h' hR) (fun E n' h' _ z => (rV_nt _ _ _ z).elim)
theorem bX6_readStraight_58 {fr M1 M2 b1 b2 : Nat} {Q : RS → Nat → AH → Prop} {h : AH} {l1 : Int}   (kk : Wp mX6_readStraight (kR fr M1 M2) Q (b1, b2) 24 [zR 46, zI (l1 + 1)] [] 137 h) : Wp mX6_readStraight (kR fr M1 M2) Q (b1, b2) 58 [zR 46, zI l1] [] 137 h := by
  refine s_iinc (x := l1) dX6_readStraight_58 rfl rfl (by decide) ?_
  exact s_goto (tgt := 24) dX6_readStraight_61 (by decide) kk
theorem bX6_readStraight_64 {fr M1 M2 b1 b2 : Nat} {Q : RS → Nat → AH → Prop} {h : AH} {x1 : AV} {R : Int → AH → Prop}   (hS : Sp mX6_readEnd true (fr - 1) 0 0 [zR 46] 137 h (rI R)) (hf : 1 ≤ fr := by omega) (kk : ∀ (x : Int) (h' : AH), R x h' → Wp mX6_readStraight (kR fr M1 M2) Q (b1, b2) 68 [zR 46, none] [zI x] 137 h') : Wp mX6_readStraight (kR fr M1 M2) Q (b1, b2) 64 [zR 46, x1] [] 137 h := by
  refine s_fgt (fgt_c (fgt_n _ fgt_0)) ?_
  refine s_aload_n (x := 46) dX6_readStraight_64 rfl ?_
  exact s_callV (as := []) (st := []) (o := 46) dX6_readStraight_65 kX6_148 rfl ⟨6, 12, TX6, e46, rfl, by decide⟩ rfl rfl (Nat.le_of_ble_eq_true rfl) hS (show fr - 1 + 1 ≤ fr by omega) (Nat.zero_le _) (Nat.zero_le _) (fun v n' h' hP _ => by obtain ⟨x, e, rfl, hR⟩ := hP; cases e; exact kk x h' hR) (fun E n' h' _ z => (rI_nt _ _ _ z).elim)
theorem bX6_readStraight_68 {fr M1 M2 b1 b2 : Nat} {Q : RS → Nat → AH → Prop} {h : AH} {s0 : Int} {x0 x1 : AV}  (r1 : s0 = 0 ∨ s0 = 1 := by omega) (hq : Q (.inl (some (zI s0))) 137 h) : Wp mX6_readStraight (kR fr M1 M2) Q (b1, b2) 68 [x0, x1] [zI s0] 137 h := by
  refine s_fgt (fgt_n _ (fgt_n _ fgt_0)) ?_
  exact s_ireturn dX6_readStraight_68 ⟨.boolean, rfl, bool_nar r1⟩ hq (fun z => by cases z)
theorem dX6_readAir_0 : decode mX6_readAir.cd 0 = .ok (.aload_n 0, 1) := by decide +kernel
theorem dX6_readAir_1 : decode mX6_readAir.cd 1 = .ok (.invokevirtual 53, 3) := by decide +kernel
theorem dX6_readAir_4 : decode mX6_readAir.cd 4 = .ok (.aload_n 0, 1) := by decide +kernel
theorem dX6_readAir_5 : decode mX6_readAir.cd 5 = .ok (.iconst 0, 1) := by decide +kernel
theorem dX6_readAir_6 : decode mX6_readAir.cd 6 = .ok (.bipush 23, 2) := by decide +kernel
theorem dX6_readAir_8 : decode mX6_readAir.cd 8 = .ok (.invokevirtual 90, 3) := by decide +kernel
theorem dX6_readAir_11 : decode mX6_readAir.cd 11 = .ok (.ifCond .ne 5, 3) := by decide +kernel
theorem dX6_readAir_14 : decode mX6_readAir.cd 14 = .ok (.iconst 0, 1) := by decide +kernel
theorem dX6_readAir_15 : decode mX6_readAir.cd 15 = .ok (.ireturn, 1) := by decide +kernel
theorem dX6_readAir_16 : decode mX6_readAir.cd 16 = .ok (.aload_n 0, 1) := by decide +kernel
theorem dX6_readAir_17 : decode mX6_readAir.cd 17 = .ok (.getfield 66, 3) := by decide +kernel
theorem dX6_readAir_20 : decode mX6_readAir.cd 20 = .ok (.istore_n 1, 1) := by decide +kernel
theorem dX6_readAir_21 : decode mX6_readAir.cd 21 = .ok (.aload_n 0, 1) := by decide +kernel
theorem dX6_readAir_22 : decode mX6_readAir.cd 22 = .ok (.getfield 37, 3) := by decide +kernel
theorem dX6_readAir_25 : decode mX6_readAir.cd 25 = .ok (.iload_n 1, 1) := by decide +kernel
theorem dX6_readAir_26 : decode mX6_readAir.cd 26 = .ok (.ishr, 1) := by decide +kernel
theorem dX6_readAir_27 : decode mX6_readAir.cd 27 = .ok (.iconst 1, 1) := by decide +kernel
theorem dX6_readAir_28 : decode mX6_readAir.cd 28 = .ok (.iand, 1) := by decide +kernel
theorem dX6_readAir_29 : decode mX6_readAir.cd 29 = .ok (.ifCond .eq 9, 3) := by decide +kernel
theorem dX6_readAir_32 : decode mX6_readAir.cd 32 = .ok (.aload_n 0, 1) := by decide +kernel
theorem dX6_readAir_33 : decode mX6_readAir.cd 33 = .ok (.iconst 5, 1) := by decide +kernel
theorem dX6_readAir_34 : decode mX6_readAir.cd 34 = .ok (.invokevirtual 86, 3) := by decide +kernel
theorem dX6_readAir_37 : decode mX6_readAir.cd 37 = .ok (.ireturn, 1) := by decide +kernel
theorem dX6_readAir_38 : decode mX6_readAir.cd 38 = .ok (.aload_n 0, 1) := by decide +kernel
theorem dX6_readAir_39 : decode mX6_readAir.cd 39 = .ok (.dup, 1) := by decide +kernel
theorem dX6_readAir_40 : decode mX6_readAir.cd 40 = .ok (.getfield 37, 3) := by decide +kernel
theorem dX6_readAir_43 : decode mX6_readAir.cd 43 = .ok (.iconst 1, 1) := by decide +kernel
theorem dX6_readAir_44 : decode mX6_readAir.cd 44 = .ok (.iload_n 1, 1) := by decide +kernel
theorem dX6_readAir_45 : decode mX6_readAir.cd 45 = .ok (.ishl, 1) := by decide +kernel
theorem dX6_readAir_46 : decode mX6_readAir.cd 46 = .ok (.ior, 1) := by decide +kernel
theorem dX6_readAir_47 : decode mX6_readAir.cd 47 = .ok (.putfield 37, 3) := by decide +kernel
theorem dX6_readAir_50 : decode mX6_readAir.cd 50 = .ok (.aload_n 0, 1) := by decide +kernel
theorem dX6_readAir_51 : decode mX6_readAir.cd 51 = .ok (.invokevirtual 53, 3) := by decide +kernel
theorem dX6_readAir_54 : decode mX6_readAir.cd 54 = .ok (.aload_n 0, 1) := by decide +kernel
theorem dX6_readAir_55 : decode mX6_readAir.cd 55 = .ok (.iconst 0, 1) := by decide +kernel
theorem dX6_readAir_56 : decode mX6_readAir.cd 56 = .ok (.bipush 100, 2) := by decide +kernel
theorem dX6_readAir_58 : decode mX6_readAir.cd 58 = .ok (.invokevirtual 90, 3) := by decide +kernel
theorem dX6_readAir_61 : decode mX6_readAir.cd 61 = .ok (.ifCond .ne 5, 3) := by decide +kernel
theorem dX6_readAir_64 : decode mX6_readAir.cd 64 = .ok (.iconst 0, 1) := by decide +kernel
theorem dX6_readAir_65 : decode mX6_readAir.cd 65 = .ok (.ireturn, 1) := by decide +kernel
theorem dX6_readAir_66 : decode mX6_readAir.cd 66 = .ok (.aload_n 0, 1) := by decide +kernel
theorem dX6_readAir_67 : decode mX6_readAir.cd 67 = .ok (.getfield 25, 3) := by decide +kernel
theorem dX6_readAir_70 : decode mX6_readAir.cd 70 = .ok (.getfield 176, 3) := by decide +kernel
theorem dX6_readAir_73 : decode mX6_readAir.cd 73 = .ok (.iload_n 1, 1) := by decide +kernel
theorem dX6_readAir_74 : decode mX6_readAir.cd 74 = .ok (.aload_n 0, 1) := by decide +kernel
theorem dX6_readAir_75 : decode mX6_readAir.cd 75 = .ok (.getfield 66, 3) := by decide +kernel
theorem dX6_readAir_78 : decode mX6_readAir.cd 78 = .ok (.iastore, 1) := by decide +kernel
theorem dX6_readAir_79 : decode mX6_readAir.cd 79 = .ok (.aload_n 0, 1) := by decide +kernel
theorem dX6_readAir_80 : decode mX6_readAir.cd 80 = .ok (.invokevirtual 53, 3) := by decide +kernel
theorem dX6_readAir_83 : decode mX6_readAir.cd 83 = .ok (.aload_n 0, 1) := by decide +kernel
theorem dX6_readAir_84 : decode mX6_readAir.cd 84 = .ok (.invokevirtual 148, 3) := by decide +kernel
theorem dX6_readAir_87 : decode mX6_readAir.cd 87 = .ok (.ireturn, 1) := by decide +kernel
theorem bX6_readAir_0 {fr M1 M2 b1 b2 : Nat} {Q : RS → Nat → AH → Prop} {h : AH} {x1 : AV} {R : AH → Prop}   (hS : Sp mX6_step true (fr - 1) 0 0 [zR 46] 137 h (rV R)) (hf : 1 ≤ fr := by omega) (kk : ∀ h' : AH, R h' → Wp mX6_readAir (kR fr M1 M2) Q (b1, b2) 4 [zR 46, none] [] 137 h') : Wp mX6_readAir (kR fr M1 M2) Q (b1, b2) 0 [zR 46, x1] [] 137 h := by
  refine s_fgt (fgt_c (fgt_n _ fgt_0)) ?_
  refine s_aload_n (x := 46) dX6_readAir_0 rfl ?_
  exact s_callV (as := []) (st := []) (o := 46) dX6_readAir_1 kX6_53 rfl ⟨6, 12, TX6, e46, rfl, by decide⟩ rfl rfl (Nat.le_of_ble_eq_true rfl) hS (show fr - 1 + 1 ≤ fr by omega) (Nat.zero_le _) (Nat.zero_le _) (fun v n' h' hP _ => by obtain ⟨e, rfl, hR⟩ := hP; cases e; exact kk h' hR) (fun E n' h' _ z => (rV_nt _ _ _ z).elim)
theorem bX6_readAir_4 {fr M1 M2 b1 b2 : Nat} {Q : RS → Nat → AH → Prop} {h : AH} {x1 : AV} {R : Int → AH → Prop}   (hS : Sp mX6_isNumber true (fr - 1) 0 0 [zR 46, zI 0, zI 23] 137 h (rI R)) (hf : 1 ≤ fr := by omega) (kk : ∀ (x : Int) (h' : AH), R x h' → Wp mX6_readAir (kR fr M1 M2) Q (b1, b2) 11 [zR 46, none] [zI x] 137 h') : Wp mX6_readAir (kR fr M1 M2) Q (b1, b2) 4 [zR 46, x1] [] 137 h := by
  refine s_fgt (fgt_c (fgt_n _ fgt_0)) ?_
  refine s_aload_n (x := 46) dX6_readAir_4 rfl ?_
  refine s_iconst dX6_readAir_5 ?_
  refine s_bipush dX6_readAir_6 (by decide) ?_
  exact s_callV (as := [zI 0, zI 23]) (st := []) (o := 46) dX6_readAir_8 kX6_90 rfl ⟨6, 12, TX6, e46, rfl, by decide⟩ rfl rfl (Nat.le_of_ble_eq_true rfl) hS (show fr - 1 + 1 ≤ fr by omega) (Nat.zero_le _) (Nat.zero_le _) (fun v n' h' hP _ => by obtain ⟨x, e, rfl, hR⟩ := hP; cases e; exact kk x h' hR) (fun E n' h' _ z => (rI_nt _ _ _ z).elim)
theorem bX6_readAir_11 {fr M1 M2 b1 b2 : Nat} {Q : RS → Nat → AH → Prop} {h : AH} {s0 : Int} {x1 : AV}  (r1 : -2147483648 ≤ s0 ∧ s0 < 2147483648 := by omega) (kt : ¬ s0 = 0 → Wp mX6_readAir (kR fr M1 M2) Q (b1, b2) 16 [zR 46, none] [] 137 h) (kf : s0 = 0 → Wp mX6_readAir (kR fr M1 M2) Q (b1, b2) 14 [zR 46, none] [] 137 h) : Wp mX6_readAir (kR fr M1 M2) Q (b1, b2) 11 [zR 46, x1] [zI s0] 137 h := by
  refine s_fgt (fgt_c (fgt_n _ fgt_0)) ?_
  exact s_if_ne (tgt := 16) dX6_readAir_11 (by decide) r1 kt kf
theorem bX6_readAir_14 {fr M1 M2 b1 b2 : Nat} {Q : RS → Nat → AH → Prop} {h : AH} {x0 x1 : AV}   (hq : Q (.inl (some (zI 0))) 137 h) : Wp mX6_readAir (kR fr M1 M2) Q (b1, b2) 14 [x0, x1] [] 137 h := by
  refine s_fgt (fgt_n _ (fgt_n _ fgt_0)) ?_
  refine s_iconst dX6_readAir_14 ?_
  exact s_ireturn dX6_readAir_15 ⟨.boolean, rfl, by decide⟩ hq (fun z => by cases z)
theorem bX6_readAir_16 {fr M1 M2 b1 b2 : Nat} {Q : RS → Nat → AH → Prop} {h : AH} {x1 : AV}  (r1 : 0 ≤ h 46 6 ∧ h 46 6 < 32 := by omega) (r2 : -2147483648 ≤ h 46 7 ∧ h 46 7 < 2147483648 := by omega) (r3 : -2147483648 ≤ bAnd ((h 46 7) / 2 ^ (h 46 6).toNat) 1 ∧ bAnd ((h 46 7) / 2 ^ (h 46 6).toNat) 1 < 2147483648 := by omega) (kt : bAnd ((h 46 7) / 2 ^ (h 46 6).toNat) 1 = 0 → Wp mX6_readAir (kR fr M1 M2) Q (b1, b2) 38 [zR 46, zI (h 46 6)] [] 137 h) (kf : ¬ bAnd ((h 46 7) / 2 ^ (h 46 6).toNat) 1 = 0 → Wp mX6_readAir (kR fr M1 M2) Q (b1, b2) 32 [zR 46, zI (h 46 6)] [] 137 h) : Wp mX6_readAir (kR fr M1 M2) Q (b1, b2) 16 [zR 46, x1] [] 137 h := by
  refine s_fgt (fgt_c (fgt_n _ fgt_0)) ?_
  refine s_aload_n (x := 46) dX6_readAir_16 rfl ?_
  refine s_get (c := 46) dX6_readAir_17 lX6_66 e46 (by decide) ?_
  refine s_istore_n dX6_readAir_20 rfl (by decide) ?_
  refine s_aload_n (x := 46) dX6_readAir_21 rfl ?_
  refine s_get (c := 46) dX6_readAir_22 lX6_37 e46 (by decide) ?_
  refine s_iload_n (x := h 46 6) dX6_readAir_25 rfl ?_
  refine s_ishrN dX6_readAir_26 r2 r1.1 r1.2 ?_
  refine s_iconst dX6_readAir_27 ?_
  refine s_iand dX6_readAir_28 ?_
  exact s_if_eq (tgt := 38) dX6_readAir_29 (by decide) r3 kt kf
theorem bX6_readAir_32 {fr M1 M2 b1 b2 : Nat} {Q : RS → Nat → AH → Prop} {h : AH} {x1 : AV} {R : Int → AH → Prop}   (hS : Sp mX6_fail true (fr - 1) 0 0 [zR 46, zI 5] 137 h (rI R)) (hf : 1 ≤ fr := by omega) (kk : ∀ (x : Int) (h' : AH), R x h' → Wp mX6_readAir (kR fr M1 M2) Q (b1, b2) 37 [zR 46, none] [zI x] 137 h') : Wp mX6_readAir (kR fr M1 M2) Q (b1, b2) 32 [zR 46, x1] [] 137 h := by
  refine s_fgt (fgt_c (fgt_n _ fgt_0)) ?_
  refine s_aload_n (x := 46) dX6_readAir_32 rfl ?_
  refine s_iconst dX6_readAir_33 ?_
  exact s_callV (as := [zI 5]) (st := []) (o := 46) dX6_readAir_34 kX6_86 rfl ⟨6, 12, TX6, e46, rfl, by decide⟩ rfl rfl (Nat.le_of_ble_eq_true rfl) hS (show fr - 1 + 1 ≤ fr by omega) (Nat.zero_le _) (Nat.zero_le _) (fun v n' h' hP _ => by obtain ⟨x, e, rfl, hR⟩ := hP; cases e; exact kk x h' hR) (fun E n' h' _ z => (rI_nt _ _ _ z).elim)
theorem bX6_readAir_37 {fr M1 M2 b1 b2 : Nat} {Q : RS → Nat → AH → Prop} {h : AH} {s0 : Int} {x0 x1 : AV}  (r1 : s0 = 0 ∨ s0 = 1 := by omega) (hq : Q (.inl (some (zI s0))) 137 h) : Wp mX6_readAir (kR fr M1 M2) Q (b1, b2) 37 [x0, x1] [zI s0] 137 h := by
  refine s_fgt (fgt_n _ (fgt_n _ fgt_0)) ?_
  exact s_ireturn dX6_readAir_37 ⟨.boolean, rfl, bool_nar r1⟩ hq (fun z => by cases z)
theorem bX6_readAir_38 {fr M1 M2 b1 b2 : Nat} {Q : RS → Nat → AH → Prop} {h : AH} {l1 : Int} {R : AH → Prop}  (r1 : 0 ≤ l1 ∧ l1 < 32 := by omega) (hS : Sp mX6_step true (fr - 1) 0 0 [zR 46] 137 (up h 46 7 (bOr (h 46 7) (1 * 2 ^ l1.toNat))) (rV R)) (hf : 1 ≤ fr := by omega) (kk : ∀ h' : AH, R h' → Wp mX6_readAir (kR fr M1 M2) Q (b1, b2) 54 [zR 46, zI l1] [] 137 h') : Wp mX6_readAir (kR fr M1 M2) Q (b1, b2) 38 [zR 46, zI l1] [] 137 h := by
  refine s_aload_n (x := 46) dX6_readAir_38 rfl ?_
  refine s_dup dX6_readAir_39 rfl ?_
  refine s_get (c := 46) dX6_readAir_40 lX6_37 e46 (by decide) ?_
  refine s_iconst dX6_readAir_43 ?_
  refine s_iload_n (x := l1) dX6_readAir_44 rfl ?_
  refine s_ishlN dX6_readAir_45 r1.1 r1.2 ?_
  refine s_ior dX6_readAir_46 ?_
  refine s_put (c := 46) dX6_readAir_47 lX6_37 e46 ?_
  refine s_aload_n (x := 46) dX6_readAir_50 rfl ?_
  exact s_callV (as := []) (st := []) (o := 46) dX6_readAir_51 kX6_53 rfl ⟨6, 12, TX6, e46, rfl, by decide⟩ rfl rfl (Nat.le_of_ble_eq_true rfl) hS (show fr - 1 + 1 ≤ fr by omega) (Nat.zero_le _) (Nat.zero_le _) (fun v n' h' hP _ => by obtain ⟨e, rfl, hR⟩ := hP; cases e; exact kk h' hR) (fun E n' h' _ z => (rV_nt _ _ _ z).elim)
theorem bX6_readAir_54 {fr M1 M2 b1 b2 : Nat} {Q : RS → Nat → AH → Prop} {h : AH} {l1 : Int} {R : Int → AH → Prop}   (hS : Sp mX6_isNumber true (fr - 1) 0 0 [zR 46, zI 0, zI 100] 137 h (rI R)) (hf : 1 ≤ fr := by omega) (kk : ∀ (x : Int) (h' : AH), R x h' → Wp mX6_readAir (kR fr M1 M2) Q (b1, b2) 61 [zR 46, zI l1] [zI x] 137 h') : Wp mX6_readAir (kR fr M1 M2) Q (b1, b2) 54 [zR 46, zI l1] [] 137 h := by
  refine s_aload_n (x := 46) dX6_readAir_54 rfl ?_
  refine s_iconst dX6_readAir_55 ?_
  refine s_bipush dX6_readAir_56 (by decide) ?_
  exact s_callV (as := [zI 0, zI 100]) (st := []) (o := 46) dX6_readAir_58 kX6_90 rfl ⟨6, 12, TX6, e46, rfl, by decide⟩ rfl rfl (Nat.le_of_ble_eq_true rfl) hS (show fr - 1 + 1 ≤ fr by omega) (Nat.zero_le _) (Nat.zero_le _) (fun v n' h' hP _ => by obtain ⟨x, e, rfl, hR⟩ := hP; cases e; exact kk x h' hR) (fun E n' h' _ z => (rI_nt _ _ _ z).elim)
theorem bX6_readAir_61 {fr M1 M2 b1 b2 : Nat} {Q : RS → Nat → AH → Prop} {h : AH} {l1 s0 : Int}  (r1 : -2147483648 ≤ s0 ∧ s0 < 2147483648 := by omega) (kt : ¬ s0 = 0 → Wp mX6_readAir (kR fr M1 M2) Q (b1, b2) 66 [zR 46, zI l1] [] 137 h) (kf : s0 = 0 → Wp mX6_readAir (kR fr M1 M2) Q (b1, b2) 64 [zR 46, zI l1] [] 137 h) : Wp mX6_readAir (kR fr M1 M2) Q (b1, b2) 61 [zR 46, zI l1] [zI s0] 137 h := by
  exact s_if_ne (tgt := 66) dX6_readAir_61 (by decide) r1 kt kf
theorem bX6_readAir_64 {fr M1 M2 b1 b2 : Nat} {Q : RS → Nat → AH → Prop} {h : AH} {x0 x1 : AV}   (hq : Q (.inl (some (zI 0))) 137 h) : Wp mX6_readAir (kR fr M1 M2) Q (b1, b2) 64 [x0, x1] [] 137 h := by
  refine s_fgt (fgt_n _ (fgt_n _ fgt_0)) ?_
  refine s_iconst dX6_readAir_64 ?_
  exact s_ireturn dX6_readAir_65 ⟨.boolean, rfl, by decide⟩ hq (fun z => by cases z)
theorem bX6_readAir_66 {fr M1 M2 b1 b2 : Nat} {Q : RS → Nat → AH → Prop} {h : AH} {l1 : Int} {R : AH → Prop} (c1 : cel 137 (h 46 2) (2, 21) := by first | assumption | omega) (r1 : 0 ≤ l1 ∧ l1 < 24 := by omega) (hS : Sp mX6_step true (fr - 1) 0 0 [zR 46] 137 (up h ((h 46 2) + 9) l1 (h 46 6)) (rV R)) (hf : 1 ≤ fr := by omega) (kk : ∀ h' : AH, R h' → Wp mX6_readAir (kR fr M1 M2) Q (b1, b2) 83 [zR 46, zI l1] [] 137 h') : Wp mX6_readAir (kR fr M1 M2) Q (b1, b2) 66 [zR 46, zI l1] [] 137 h := by
  refine s_aload_n (x := 46) dX6_readAir_66 rfl ?_
  refine s_getR (c := 46) dX6_readAir_67 lX6_25 e46 rfl ?_
  refine s_getFd (c := h 46 2) (d := (h 46 2) + 9) dX6_readAir_70 lX6_176 c1 (Or.inl rfl) rfl (ne0 (fin_X2_15 c1)) ?_
  refine s_iload_n (x := l1) dX6_readAir_73 rfl ?_
  refine s_aload_n (x := 46) dX6_readAir_74 rfl ?_
  refine s_get (c := 46) dX6_readAir_75 lX6_66 e46 (by decide) ?_
  refine s_iast (c := (h 46 2) + 9) (i := l1) dX6_readAir_78 (fin_X2_15 c1) r1.1 r1.2 ?_
  refine s_aload_n (x := 46) dX6_readAir_79 rfl ?_
  exact s_callV (as := []) (st := []) (o := 46) dX6_readAir_80 kX6_53 rfl ⟨6, 12, TX6, e46, rfl, by decide⟩ rfl rfl (Nat.le_of_ble_eq_true rfl) hS (show fr - 1 + 1 ≤ fr by omega) (Nat.zero_le _) (Nat.zero_le _) (fun v n' h' hP _ => by obtain ⟨e, rfl, hR⟩ := hP; cases e; exact kk h' hR) (fun E n' h' _ z => (rV_nt _ _ _ z).elim)
theorem bX6_readAir_83 {fr M1 M2 b1 b2 : Nat} {Q : RS → Nat → AH → Prop} {h : AH} {x1 : AV} {R : Int → AH → Prop}   (hS : Sp mX6_readEnd true (fr - 1) 0 0 [zR 46] 137 h (rI R)) (hf : 1 ≤ fr := by omega) (kk : ∀ (x : Int) (h' : AH), R x h' → Wp mX6_readAir (kR fr M1 M2) Q (b1, b2) 87 [zR 46, none] [zI x] 137 h') : Wp mX6_readAir (kR fr M1 M2) Q (b1, b2) 83 [zR 46, x1] [] 137 h := by
  refine s_fgt (fgt_c (fgt_n _ fgt_0)) ?_
  refine s_aload_n (x := 46) dX6_readAir_83 rfl ?_
  exact s_callV (as := []) (st := []) (o := 46) dX6_readAir_84 kX6_148 rfl ⟨6, 12, TX6, e46, rfl, by decide⟩ rfl rfl (Nat.le_of_ble_eq_true rfl) hS (show fr - 1 + 1 ≤ fr by omega) (Nat.zero_le _) (Nat.zero_le _) (fun v n' h' hP _ => by obtain ⟨x, e, rfl, hR⟩ := hP; cases e; exact kk x h' hR) (fun E n' h' _ z => (rI_nt _ _ _ z).elim)
theorem bX6_readAir_87 {fr M1 M2 b1 b2 : Nat} {Q : RS → Nat → AH → Prop} {h : AH} {s0 : Int} {x0 x1 : AV}  (r1 : s0 = 0 ∨ s0 = 1 := by omega) (hq : Q (.inl (some (zI s0))) 137 h) : Wp mX6_readAir (kR fr M1 M2) Q (b1, b2) 87 [x0, x1] [zI s0] 137 h := by
  refine s_fgt (fgt_n _ (fgt_n _ fgt_0)) ?_
  exact s_ireturn dX6_readAir_87 ⟨.boolean, rfl, bool_nar r1⟩ hq (fun z => by cases z)
theorem dX6_readMask_0 : decode mX6_readMask.cd 0 = .ok (.aload_n 0, 1) := by decide +kernel
theorem dX6_readMask_1 : decode mX6_readMask.cd 1 = .ok (.getfield 44, 3) := by decide +kernel
theorem dX6_readMask_4 : decode mX6_readMask.cd 4 = .ok (.ifCond .eq 9, 3) := by decide +kernel
theorem dX6_readMask_7 : decode mX6_readMask.cd 7 = .ok (.aload_n 0, 1) := by decide +kernel
theorem dX6_readMask_8 : decode mX6_readMask.cd 8 = .ok (.iconst 5, 1) := by decide +kernel
theorem dX6_readMask_9 : decode mX6_readMask.cd 9 = .ok (.invokevirtual 86, 3) := by decide +kernel
theorem dX6_readMask_12 : decode mX6_readMask.cd 12 = .ok (.ireturn, 1) := by decide +kernel
theorem dX6_readMask_13 : decode mX6_readMask.cd 13 = .ok (.aload_n 0, 1) := by decide +kernel
theorem dX6_readMask_14 : decode mX6_readMask.cd 14 = .ok (.iconst 1, 1) := by decide +kernel
theorem dX6_readMask_15 : decode mX6_readMask.cd 15 = .ok (.putfield 44, 3) := by decide +kernel
theorem dX6_readMask_18 : decode mX6_readMask.cd 18 = .ok (.aload_n 0, 1) := by decide +kernel
theorem dX6_readMask_19 : decode mX6_readMask.cd 19 = .ok (.invokevirtual 53, 3) := by decide +kernel
theorem dX6_readMask_22 : decode mX6_readMask.cd 22 = .ok (.aload_n 0, 1) := by decide +kernel
theorem dX6_readMask_23 : decode mX6_readMask.cd 23 = .ok (.iconst 1, 1) := by decide +kernel
theorem dX6_readMask_24 : decode mX6_readMask.cd 24 = .ok (.bipush 99, 2) := by decide +kernel
theorem dX6_readMask_26 : decode mX6_readMask.cd 26 = .ok (.invokevirtual 90, 3) := by decide +kernel
theorem dX6_readMask_29 : decode mX6_readMask.cd 29 = .ok (.ifCond .ne 5, 3) := by decide +kernel
theorem dX6_readMask_32 : decode mX6_readMask.cd 32 = .ok (.iconst 0, 1) := by decide +kernel
theorem dX6_readMask_33 : decode mX6_readMask.cd 33 = .ok (.ireturn, 1) := by decide +kernel
theorem dX6_readMask_34 : decode mX6_readMask.cd 34 = .ok (.aload_n 0, 1) := by decide +kernel
theorem dX6_readMask_35 : decode mX6_readMask.cd 35 = .ok (.getfield 25, 3) := by decide +kernel
theorem dX6_readMask_38 : decode mX6_readMask.cd 38 = .ok (.aload_n 0, 1) := by decide +kernel
theorem dX6_readMask_39 : decode mX6_readMask.cd 39 = .ok (.getfield 66, 3) := by decide +kernel
theorem dX6_readMask_42 : decode mX6_readMask.cd 42 = .ok (.putfield 178, 3) := by decide +kernel
theorem dX6_readMask_45 : decode mX6_readMask.cd 45 = .ok (.aload_n 0, 1) := by decide +kernel
theorem dX6_readMask_46 : decode mX6_readMask.cd 46 = .ok (.invokevirtual 53, 3) := by decide +kernel
theorem dX6_readMask_49 : decode mX6_readMask.cd 49 = .ok (.aload_n 0, 1) := by decide +kernel
theorem dX6_readMask_50 : decode mX6_readMask.cd 50 = .ok (.iconst 0, 1) := by decide +kernel
theorem dX6_readMask_51 : decode mX6_readMask.cd 51 = .ok (.bipush 9, 2) := by decide +kernel
theorem dX6_readMask_53 : decode mX6_readMask.cd 53 = .ok (.invokevirtual 90, 3) := by decide +kernel
theorem dX6_readMask_56 : decode mX6_readMask.cd 56 = .ok (.ifCond .ne 5, 3) := by decide +kernel
theorem dX6_readMask_59 : decode mX6_readMask.cd 59 = .ok (.iconst 0, 1) := by decide +kernel
theorem dX6_readMask_60 : decode mX6_readMask.cd 60 = .ok (.ireturn, 1) := by decide +kernel
theorem dX6_readMask_61 : decode mX6_readMask.cd 61 = .ok (.aload_n 0, 1) := by decide +kernel
theorem dX6_readMask_62 : decode mX6_readMask.cd 62 = .ok (.getfield 25, 3) := by decide +kernel
theorem dX6_readMask_65 : decode mX6_readMask.cd 65 = .ok (.aload_n 0, 1) := by decide +kernel
theorem dX6_readMask_66 : decode mX6_readMask.cd 66 = .ok (.getfield 66, 3) := by decide +kernel
theorem dX6_readMask_69 : decode mX6_readMask.cd 69 = .ok (.putfield 181, 3) := by decide +kernel
theorem dX6_readMask_72 : decode mX6_readMask.cd 72 = .ok (.aload_n 0, 1) := by decide +kernel
theorem dX6_readMask_73 : decode mX6_readMask.cd 73 = .ok (.invokevirtual 53, 3) := by decide +kernel
theorem dX6_readMask_76 : decode mX6_readMask.cd 76 = .ok (.aload_n 0, 1) := by decide +kernel
theorem dX6_readMask_77 : decode mX6_readMask.cd 77 = .ok (.iconst 0, 1) := by decide +kernel
theorem dX6_readMask_78 : decode mX6_readMask.cd 78 = .ok (.bipush 99, 2) := by decide +kernel
theorem dX6_readMask_80 : decode mX6_readMask.cd 80 = .ok (.invokevirtual 90, 3) := by decide +kernel
theorem dX6_readMask_83 : decode mX6_readMask.cd 83 = .ok (.ifCond .ne 5, 3) := by decide +kernel
theorem dX6_readMask_86 : decode mX6_readMask.cd 86 = .ok (.iconst 0, 1) := by decide +kernel
theorem dX6_readMask_87 : decode mX6_readMask.cd 87 = .ok (.ireturn, 1) := by decide +kernel
theorem dX6_readMask_88 : decode mX6_readMask.cd 88 = .ok (.aload_n 0, 1) := by decide +kernel
theorem dX6_readMask_89 : decode mX6_readMask.cd 89 = .ok (.getfield 25, 3) := by decide +kernel
theorem dX6_readMask_92 : decode mX6_readMask.cd 92 = .ok (.aload_n 0, 1) := by decide +kernel
theorem dX6_readMask_93 : decode mX6_readMask.cd 93 = .ok (.getfield 66, 3) := by decide +kernel
theorem dX6_readMask_96 : decode mX6_readMask.cd 96 = .ok (.putfield 184, 3) := by decide +kernel
theorem dX6_readMask_99 : decode mX6_readMask.cd 99 = .ok (.aload_n 0, 1) := by decide +kernel
theorem dX6_readMask_100 : decode mX6_readMask.cd 100 = .ok (.invokevirtual 53, 3) := by decide +kernel
theorem dX6_readMask_103 : decode mX6_readMask.cd 103 = .ok (.aload_n 0, 1) := by decide +kernel
theorem dX6_readMask_104 : decode mX6_readMask.cd 104 = .ok (.invokevirtual 148, 3) := by decide +kernel
theorem dX6_readMask_107 : decode mX6_readMask.cd 107 = .ok (.ireturn, 1) := by decide +kernel
theorem bX6_readMask_0 {fr M1 M2 b1 b2 : Nat} {Q : RS → Nat → AH → Prop} {h : AH}  (r1 : -2147483648 ≤ h 46 9 ∧ h 46 9 < 2147483648 := by omega) (kt : h 46 9 = 0 → Wp mX6_readMask (kR fr M1 M2) Q (b1, b2) 13 [zR 46] [] 137 h) (kf : ¬ h 46 9 = 0 → Wp mX6_readMask (kR fr M1 M2) Q (b1, b2) 7 [zR 46] [] 137 h) : Wp mX6_readMask (kR fr M1 M2) Q (b1, b2) 0 [zR 46] [] 137 h := by
  refine s_aload_n (x := 46) dX6_readMask_0 rfl ?_
  refine s_get (c := 46) dX6_readMask_1 lX6_44 e46 (by decide) ?_
  exact s_if_eq (tgt := 13) dX6_readMask_4 (by decide) r1 kt kf
theorem bX6_readMask_7 {fr M1 M2 b1 b2 : Nat} {Q : RS → Nat → AH → Prop} {h : AH} {R : Int → AH → Prop}   (hS : Sp mX6_fail true (fr - 1) 0 0 [zR 46, zI 5] 137 h (rI R)) (hf : 1 ≤ fr := by omega) (kk : ∀ (x : Int) (h' : AH), R x h' → Wp mX6_readMask (kR fr M1 M2) Q (b1, b2) 12 [zR 46] [zI x] 137 h') : Wp mX6_readMask (kR fr M1 M2) Q (b1, b2) 7 [zR 46] [] 137 h := by
  refine s_aload_n (x := 46) dX6_readMask_7 rfl ?_
  refine s_iconst dX6_readMask_8 ?_
  exact s_callV (as := [zI 5]) (st := []) (o := 46) dX6_readMask_9 kX6_86 rfl ⟨6, 12, TX6, e46, rfl, by decide⟩ rfl rfl (Nat.le_of_ble_eq_true rfl) hS (show fr - 1 + 1 ≤ fr by omega) (Nat.zero_le _) (Nat.zero_le _) (fun v n' h' hP _ => by obtain ⟨x, e, rfl, hR⟩ := hP; cases e; exact kk x h' hR) (fun E n' h' _ z => (rI_nt _ _ _ z).elim)
theorem bX6_readMask_12 {fr M1 M2 b1 b2 : Nat} {Q : RS → Nat → AH → Prop} {h : AH} {s0 : Int} {x0 : AV}  (r1 : s0 = 0 ∨ s0 = 1 := by omega) (hq : Q (.inl (some (zI s0))) 137 h) : Wp mX6_readMask (kR fr M1 M2) Q (b1, b2) 12 [x0] [zI s0] 137 h := by
  refine s_fgt (fgt_n _ fgt_0) ?_
  exact s_ireturn dX6_readMask_12 ⟨.boolean, rfl, bool_nar r1⟩ hq (fun z => by cases z)
theorem bX6_readMask_13 {fr M1 M2 b1 b2 : Nat} {Q : RS → Nat → AH → Prop} {h : AH} {R : AH → Prop}   (hS : Sp mX6_step true (fr - 1) 0 0 [zR 46] 137 (up h 46 9 1) (rV R)) (hf : 1 ≤ fr := by omega) (kk : ∀ h' : AH, R h' → Wp mX6_readMask (kR fr M1 M2) Q (b1, b2) 22 [zR 46] [] 137 h') : Wp mX6_readMask (kR fr M1 M2) Q (b1, b2) 13 [zR 46] [] 137 h := by
  refine s_aload_n (x := 46) dX6_readMask_13 rfl ?_
  refine s_iconst dX6_readMask_14 ?_
  refine s_putZ (c := 46) dX6_readMask_15 lX6_44 e46 (by decide) ?_
  refine s_aload_n (x := 46) dX6_readMask_18 rfl ?_
  exact s_callV (as := []) (st := []) (o := 46) dX6_readMask_19 kX6_53 rfl ⟨6, 12, TX6, e46, rfl, by decide⟩ rfl rfl (Nat.le_of_ble_eq_true rfl) hS (show fr - 1 + 1 ≤ fr by omega) (Nat.zero_le _) (Nat.zero_le _) (fun v n' h' hP _ => by obtain ⟨e, rfl, hR⟩ := hP; cases e; exact kk h' hR) (fun E n' h' _ z => (rV_nt _ _ _ z).elim)
theorem bX6_readMask_22 {fr M1 M2 b1 b2 : Nat} {Q : RS → Nat → AH → Prop} {h : AH} {R : Int → AH → Prop}   (hS : Sp mX6_isNumber true (fr - 1) 0 0 [zR 46, zI 1, zI 99] 137 h (rI R)) (hf : 1 ≤ fr := by omega) (kk : ∀ (x : Int) (h' : AH), R x h' → Wp mX6_readMask (kR fr M1 M2) Q (b1, b2) 29 [zR 46] [zI x] 137 h') : Wp mX6_readMask (kR fr M1 M2) Q (b1, b2) 22 [zR 46] [] 137 h := by
  refine s_aload_n (x := 46) dX6_readMask_22 rfl ?_
  refine s_iconst dX6_readMask_23 ?_
  refine s_bipush dX6_readMask_24 (by decide) ?_
  exact s_callV (as := [zI 1, zI 99]) (st := []) (o := 46) dX6_readMask_26 kX6_90 rfl ⟨6, 12, TX6, e46, rfl, by decide⟩ rfl rfl (Nat.le_of_ble_eq_true rfl) hS (show fr - 1 + 1 ≤ fr by omega) (Nat.zero_le _) (Nat.zero_le _) (fun v n' h' hP _ => by obtain ⟨x, e, rfl, hR⟩ := hP; cases e; exact kk x h' hR) (fun E n' h' _ z => (rI_nt _ _ _ z).elim)
theorem bX6_readMask_29 {fr M1 M2 b1 b2 : Nat} {Q : RS → Nat → AH → Prop} {h : AH} {s0 : Int}  (r1 : -2147483648 ≤ s0 ∧ s0 < 2147483648 := by omega) (kt : ¬ s0 = 0 → Wp mX6_readMask (kR fr M1 M2) Q (b1, b2) 34 [zR 46] [] 137 h) (kf : s0 = 0 → Wp mX6_readMask (kR fr M1 M2) Q (b1, b2) 32 [zR 46] [] 137 h) : Wp mX6_readMask (kR fr M1 M2) Q (b1, b2) 29 [zR 46] [zI s0] 137 h := by
  exact s_if_ne (tgt := 34) dX6_readMask_29 (by decide) r1 kt kf
theorem bX6_readMask_32 {fr M1 M2 b1 b2 : Nat} {Q : RS → Nat → AH → Prop} {h : AH} {x0 : AV}   (hq : Q (.inl (some (zI 0))) 137 h) : Wp mX6_readMask (kR fr M1 M2) Q (b1, b2) 32 [x0] [] 137 h := by
  refine s_fgt (fgt_n _ fgt_0) ?_
  refine s_iconst dX6_readMask_32 ?_
  exact s_ireturn dX6_readMask_33 ⟨.boolean, rfl, by decide⟩ hq (fun z => by cases z)
theorem bX6_readMask_34 {fr M1 M2 b1 b2 : Nat} {Q : RS → Nat → AH → Prop} {h : AH} {R : AH → Prop} (c1 : cel 137 (h 46 2) (2, 21) := by first | assumption | omega)  (hS : Sp mX6_step true (fr - 1) 0 0 [zR 46] 137 (up h (h 46 2) 4 (h 46 6)) (rV R)) (hf : 1 ≤ fr := by omega) (kk : ∀ h' : AH, R h' → Wp mX6_readMask (kR fr M1 M2) Q (b1, b2) 49 [zR 46] [] 137 h') : Wp mX6_readMask (kR fr M1 M2) Q (b1, b2) 34 [zR 46] [] 137 h := by
  refine s_aload_n (x := 46) dX6_readMask_34 rfl ?_
  refine s_getR (c := 46) dX6_readMask_35 lX6_25 e46 rfl ?_
  refine s_aload_n (x := 46) dX6_readMask_38 rfl ?_
  refine s_get (c := 46) dX6_readMask_39 lX6_66 e46 (by decide) ?_
  refine s_put (c := h 46 2) dX6_readMask_42 lX6_178 c1 ?_
  refine s_aload_n (x := 46) dX6_readMask_45 rfl ?_
  exact s_callV (as := []) (st := []) (o := 46) dX6_readMask_46 kX6_53 rfl ⟨6, 12, TX6, e46, rfl, by decide⟩ rfl rfl (Nat.le_of_ble_eq_true rfl) hS (show fr - 1 + 1 ≤ fr by omega) (Nat.zero_le _) (Nat.zero_le _) (fun v n' h' hP _ => by obtain ⟨e, rfl, hR⟩ := hP; cases e; exact kk h' hR) (fun E n' h' _ z => (rV_nt _ _ _ z).elim)
theorem bX6_readMask_49 {fr M1 M2 b1 b2 : Nat} {Q : RS → Nat → AH → Prop} {h : AH} {R : Int → AH → Prop}   (hS : Sp mX6_isNumber true (fr - 1) 0 0 [zR 46, zI 0, zI 9] 137 h (rI R)) (hf : 1 ≤ fr := by omega) (kk : ∀ (x : Int) (h' : AH), R x h' → Wp mX6_readMask (kR fr M1 M2) Q (b1, b2) 56 [zR 46] [zI x] 137 h') : Wp mX6_readMask (kR fr M1 M2) Q (b1, b2) 49 [zR 46] [] 137 h := by
  refine s_aload_n (x := 46) dX6_readMask_49 rfl ?_
  refine s_iconst dX6_readMask_50 ?_
  refine s_bipush dX6_readMask_51 (by decide) ?_
  exact s_callV (as := [zI 0, zI 9]) (st := []) (o := 46) dX6_readMask_53 kX6_90 rfl ⟨6, 12, TX6, e46, rfl, by decide⟩ rfl rfl (Nat.le_of_ble_eq_true rfl) hS (show fr - 1 + 1 ≤ fr by omega) (Nat.zero_le _) (Nat.zero_le _) (fun v n' h' hP _ => by obtain ⟨x, e, rfl, hR⟩ := hP; cases e; exact kk x h' hR) (fun E n' h' _ z => (rI_nt _ _ _ z).elim)
theorem bX6_readMask_56 {fr M1 M2 b1 b2 : Nat} {Q : RS → Nat → AH → Prop} {h : AH} {s0 : Int}  (r1 : -2147483648 ≤ s0 ∧ s0 < 2147483648 := by omega) (kt : ¬ s0 = 0 → Wp mX6_readMask (kR fr M1 M2) Q (b1, b2) 61 [zR 46] [] 137 h) (kf : s0 = 0 → Wp mX6_readMask (kR fr M1 M2) Q (b1, b2) 59 [zR 46] [] 137 h) : Wp mX6_readMask (kR fr M1 M2) Q (b1, b2) 56 [zR 46] [zI s0] 137 h := by
  exact s_if_ne (tgt := 61) dX6_readMask_56 (by decide) r1 kt kf
theorem bX6_readMask_59 {fr M1 M2 b1 b2 : Nat} {Q : RS → Nat → AH → Prop} {h : AH} {x0 : AV}   (hq : Q (.inl (some (zI 0))) 137 h) : Wp mX6_readMask (kR fr M1 M2) Q (b1, b2) 59 [x0] [] 137 h := by
  refine s_fgt (fgt_n _ fgt_0) ?_
  refine s_iconst dX6_readMask_59 ?_
  exact s_ireturn dX6_readMask_60 ⟨.boolean, rfl, by decide⟩ hq (fun z => by cases z)
theorem bX6_readMask_61 {fr M1 M2 b1 b2 : Nat} {Q : RS → Nat → AH → Prop} {h : AH} {R : AH → Prop} (c1 : cel 137 (h 46 2) (2, 21) := by first | assumption | omega)  (hS : Sp mX6_step true (fr - 1) 0 0 [zR 46] 137 (up h (h 46 2) 5 (h 46 6)) (rV R)) (hf : 1 ≤ fr := by omega) (kk : ∀ h' : AH, R h' → Wp mX6_readMask (kR fr M1 M2) Q (b1, b2) 76 [zR 46] [] 137 h') : Wp mX6_readMask (kR fr M1 M2) Q (b1, b2) 61 [zR 46] [] 137 h := by
  refine s_aload_n (x := 46) dX6_readMask_61 rfl ?_
  refine s_getR (c := 46) dX6_readMask_62 lX6_25 e46 rfl ?_
  refine s_aload_n (x := 46) dX6_readMask_65 rfl ?_
  refine s_get (c := 46) dX6_readMask_66 lX6_66 e46 (by decide) ?_
  refine s_put (c := h 46 2) dX6_readMask_69 lX6_181 c1 ?_
  refine s_aload_n (x := 46) dX6_readMask_72 rfl ?_
  exact s_callV (as := []) (st := []) (o := 46) dX6_readMask_73 kX6_53 rfl ⟨6, 12, TX6, e46, rfl, by decide⟩ rfl rfl (Nat.le_of_ble_eq_true rfl) hS (show fr - 1 + 1 ≤ fr by omega) (Nat.zero_le _) (Nat.zero_le _) (fun v n' h' hP _ => by obtain ⟨e, rfl, hR⟩ := hP; cases e; exact kk h' hR) (fun E n' h' _ z => (rV_nt _ _ _ z).elim)
theorem bX6_readMask_76 {fr M1 M2 b1 b2 : Nat} {Q : RS → Nat → AH → Prop} {h : AH} {R : Int → AH → Prop}   (hS : Sp mX6_isNumber true (fr - 1) 0 0 [zR 46, zI 0, zI 99] 137 h (rI R)) (hf : 1 ≤ fr := by omega) (kk : ∀ (x : Int) (h' : AH), R x h' → Wp mX6_readMask (kR fr M1 M2) Q (b1, b2) 83 [zR 46] [zI x] 137 h') : Wp mX6_readMask (kR fr M1 M2) Q (b1, b2) 76 [zR 46] [] 137 h := by
  refine s_aload_n (x := 46) dX6_readMask_76 rfl ?_
  refine s_iconst dX6_readMask_77 ?_
  refine s_bipush dX6_readMask_78 (by decide) ?_
  exact s_callV (as := [zI 0, zI 99]) (st := []) (o := 46) dX6_readMask_80 kX6_90 rfl ⟨6, 12, TX6, e46, rfl, by decide⟩ rfl rfl (Nat.le_of_ble_eq_true rfl) hS (show fr - 1 + 1 ≤ fr by omega) (Nat.zero_le _) (Nat.zero_le _) (fun v n' h' hP _ => by obtain ⟨x, e, rfl, hR⟩ := hP; cases e; exact kk x h' hR) (fun E n' h' _ z => (rI_nt _ _ _ z).elim)
theorem bX6_readMask_83 {fr M1 M2 b1 b2 : Nat} {Q : RS → Nat → AH → Prop} {h : AH} {s0 : Int}  (r1 : -2147483648 ≤ s0 ∧ s0 < 2147483648 := by omega) (kt : ¬ s0 = 0 → Wp mX6_readMask (kR fr M1 M2) Q (b1, b2) 88 [zR 46] [] 137 h) (kf : s0 = 0 → Wp mX6_readMask (kR fr M1 M2) Q (b1, b2) 86 [zR 46] [] 137 h) : Wp mX6_readMask (kR fr M1 M2) Q (b1, b2) 83 [zR 46] [zI s0] 137 h := by
  exact s_if_ne (tgt := 88) dX6_readMask_83 (by decide) r1 kt kf
theorem bX6_readMask_86 {fr M1 M2 b1 b2 : Nat} {Q : RS → Nat → AH → Prop} {h : AH} {x0 : AV}   (hq : Q (.inl (some (zI 0))) 137 h) : Wp mX6_readMask (kR fr M1 M2) Q (b1, b2) 86 [x0] [] 137 h := by
  refine s_fgt (fgt_n _ fgt_0) ?_
  refine s_iconst dX6_readMask_86 ?_
  exact s_ireturn dX6_readMask_87 ⟨.boolean, rfl, by decide⟩ hq (fun z => by cases z)
theorem bX6_readMask_88 {fr M1 M2 b1 b2 : Nat} {Q : RS → Nat → AH → Prop} {h : AH} {R : AH → Prop} (c1 : cel 137 (h 46 2) (2, 21) := by first | assumption | omega)  (hS : Sp mX6_step true (fr - 1) 0 0 [zR 46] 137 (up h (h 46 2) 6 (h 46 6)) (rV R)) (hf : 1 ≤ fr := by omega) (kk : ∀ h' : AH, R h' → Wp mX6_readMask (kR fr M1 M2) Q (b1, b2) 103 [zR 46] [] 137 h') : Wp mX6_readMask (kR fr M1 M2) Q (b1, b2) 88 [zR 46] [] 137 h := by
  refine s_aload_n (x := 46) dX6_readMask_88 rfl ?_
  refine s_getR (c := 46) dX6_readMask_89 lX6_25 e46 rfl ?_
  refine s_aload_n (x := 46) dX6_readMask_92 rfl ?_
  refine s_get (c := 46) dX6_readMask_93 lX6_66 e46 (by decide) ?_
  refine s_put (c := h 46 2) dX6_readMask_96 lX6_184 c1 ?_
  refine s_aload_n (x := 46) dX6_readMask_99 rfl ?_
  exact s_callV (as := []) (st := []) (o := 46) dX6_readMask_100 kX6_53 rfl ⟨6, 12, TX6, e46, rfl, by decide⟩ rfl rfl (Nat.le_of_ble_eq_true rfl) hS (show fr - 1 + 1 ≤ fr by omega) (Nat.zero_le _) (Nat.zero_le _) (fun v n' h' hP _ => by obtain ⟨e, rfl, hR⟩ := hP; cases e; exact kk h' hR) (fun E n' h' _ z => (rV_nt _ _ _ z).elim)
theorem bX6_readMask_103 {fr M1 M2 b1 b2 : Nat} {Q : RS → Nat → AH → Prop} {h : AH} {R : Int → AH → Prop}   (hS : Sp mX6_readEnd true (fr - 1) 0 0 [zR 46] 137 h (rI R)) (hf : 1 ≤ fr := by omega) (kk : ∀ (x : Int) (h' : AH), R x h' → Wp mX6_readMask (kR fr M1 M2) Q (b1, b2) 107 [zR 46] [zI x] 137 h') : Wp mX6_readMask (kR fr M1 M2) Q (b1, b2) 103 [zR 46] [] 137 h := by
  refine s_aload_n (x := 46) dX6_readMask_103 rfl ?_
  exact s_callV (as := []) (st := []) (o := 46) dX6_readMask_104 kX6_148 rfl ⟨6, 12, TX6, e46, rfl, by decide⟩ rfl rfl (Nat.le_of_ble_eq_true rfl) hS (show fr - 1 + 1 ≤ fr by omega) (Nat.zero_le _) (Nat.zero_le _) (fun v n' h' hP _ => by obtain ⟨x, e, rfl, hR⟩ := hP; cases e; exact kk x h' hR) (fun E n' h' _ z => (rI_nt _ _ _ z).elim)
theorem bX6_readMask_107 {fr M1 M2 b1 b2 : Nat} {Q : RS → Nat → AH → Prop} {h : AH} {s0 : Int} {x0 : AV}  (r1 : s0 = 0 ∨ s0 = 1 := by omega) (hq : Q (.inl (some (zI s0))) 137 h) : Wp mX6_readMask (kR fr M1 M2) Q (b1, b2) 107 [x0] [zI s0] 137 h := by
  refine s_fgt (fgt_n _ fgt_0) ?_
  exact s_ireturn dX6_readMask_107 ⟨.boolean, rfl, bool_nar r1⟩ hq (fun z => by cases z)
theorem dX6_readSweet_0 : decode mX6_readSweet.cd 0 = .ok (.aload_n 0, 1) := by decide +kernel
theorem dX6_readSweet_1 : decode mX6_readSweet.cd 1 = .ok (.invokevirtual 53, 3) := by decide +kernel
theorem dX6_readSweet_4 : decode mX6_readSweet.cd 4 = .ok (.aload_n 0, 1) := by decide +kernel
theorem dX6_readSweet_5 : decode mX6_readSweet.cd 5 = .ok (.invokevirtual 187, 3) := by decide +kernel
theorem dX6_readSweet_8 : decode mX6_readSweet.cd 8 = .ok (.ifCond .ne 5, 3) := by decide +kernel
theorem dX6_readSweet_11 : decode mX6_readSweet.cd 11 = .ok (.iconst 0, 1) := by decide +kernel
theorem dX6_readSweet_12 : decode mX6_readSweet.cd 12 = .ok (.ireturn, 1) := by decide +kernel
theorem dX6_readSweet_13 : decode mX6_readSweet.cd 13 = .ok (.aload_n 0, 1) := by decide +kernel
theorem dX6_readSweet_14 : decode mX6_readSweet.cd 14 = .ok (.getfield 66, 3) := by decide +kernel
theorem dX6_readSweet_17 : decode mX6_readSweet.cd 17 = .ok (.istore_n 1, 1) := by decide +kernel
theorem dX6_readSweet_18 : decode mX6_readSweet.cd 18 = .ok (.aload_n 0, 1) := by decide +kernel
theorem dX6_readSweet_19 : decode mX6_readSweet.cd 19 = .ok (.invokevirtual 53, 3) := by decide +kernel
theorem dX6_readSweet_22 : decode mX6_readSweet.cd 22 = .ok (.aload_n 0, 1) := by decide +kernel
theorem dX6_readSweet_23 : decode mX6_readSweet.cd 23 = .ok (.invokevirtual 187, 3) := by decide +kernel
theorem dX6_readSweet_26 : decode mX6_readSweet.cd 26 = .ok (.ifCond .ne 5, 3) := by decide +kernel
theorem dX6_readSweet_29 : decode mX6_readSweet.cd 29 = .ok (.iconst 0, 1) := by decide +kernel
theorem dX6_readSweet_30 : decode mX6_readSweet.cd 30 = .ok (.ireturn, 1) := by decide +kernel
theorem dX6_readSweet_31 : decode mX6_readSweet.cd 31 = .ok (.aload_n 0, 1) := by decide +kernel
theorem dX6_readSweet_32 : decode mX6_readSweet.cd 32 = .ok (.getfield 66, 3) := by decide +kernel
theorem dX6_readSweet_35 : decode mX6_readSweet.cd 35 = .ok (.istore_n 2, 1) := by decide +kernel
theorem dX6_readSweet_36 : decode mX6_readSweet.cd 36 = .ok (.iload_n 1, 1) := by decide +kernel
theorem dX6_readSweet_37 : decode mX6_readSweet.cd 37 = .ok (.iload_n 2, 1) := by decide +kernel
theorem dX6_readSweet_38 : decode mX6_readSweet.cd 38 = .ok (.if_icmp .ne 9, 3) := by decide +kernel
theorem dX6_readSweet_41 : decode mX6_readSweet.cd 41 = .ok (.aload_n 0, 1) := by decide +kernel
theorem dX6_readSweet_42 : decode mX6_readSweet.cd 42 = .ok (.iconst 4, 1) := by decide +kernel
theorem dX6_readSweet_43 : decode mX6_readSweet.cd 43 = .ok (.invokevirtual 86, 3) := by decide +kernel
theorem dX6_readSweet_46 : decode mX6_readSweet.cd 46 = .ok (.ireturn, 1) := by decide +kernel
theorem dX6_readSweet_47 : decode mX6_readSweet.cd 47 = .ok (.aload_n 0, 1) := by decide +kernel
theorem dX6_readSweet_48 : decode mX6_readSweet.cd 48 = .ok (.getfield 25, 3) := by decide +kernel
theorem dX6_readSweet_51 : decode mX6_readSweet.cd 51 = .ok (.getfield 190, 3) := by decide +kernel
theorem dX6_readSweet_54 : decode mX6_readSweet.cd 54 = .ok (.iload_n 1, 1) := by decide +kernel
theorem dX6_readSweet_55 : decode mX6_readSweet.cd 55 = .ok (.dup2, 1) := by decide +kernel
theorem dX6_readSweet_56 : decode mX6_readSweet.cd 56 = .ok (.iaload, 1) := by decide +kernel
theorem dX6_readSweet_57 : decode mX6_readSweet.cd 57 = .ok (.iconst 1, 1) := by decide +kernel
theorem dX6_readSweet_58 : decode mX6_readSweet.cd 58 = .ok (.iload_n 2, 1) := by decide +kernel
theorem dX6_readSweet_59 : decode mX6_readSweet.cd 59 = .ok (.ishl, 1) := by decide +kernel
theorem dX6_readSweet_60 : decode mX6_readSweet.cd 60 = .ok (.ior, 1) := by decide +kernel
theorem dX6_readSweet_61 : decode mX6_readSweet.cd 61 = .ok (.iastore, 1) := by decide +kernel
theorem dX6_readSweet_62 : decode mX6_readSweet.cd 62 = .ok (.aload_n 0, 1) := by decide +kernel
theorem dX6_readSweet_63 : decode mX6_readSweet.cd 63 = .ok (.getfield 25, 3) := by decide +kernel
theorem dX6_readSweet_66 : decode mX6_readSweet.cd 66 = .ok (.getfield 190, 3) := by decide +kernel
theorem dX6_readSweet_69 : decode mX6_readSweet.cd 69 = .ok (.iload_n 2, 1) := by decide +kernel
theorem dX6_readSweet_70 : decode mX6_readSweet.cd 70 = .ok (.dup2, 1) := by decide +kernel
theorem dX6_readSweet_71 : decode mX6_readSweet.cd 71 = .ok (.iaload, 1) := by decide +kernel
theorem dX6_readSweet_72 : decode mX6_readSweet.cd 72 = .ok (.iconst 1, 1) := by decide +kernel
theorem dX6_readSweet_73 : decode mX6_readSweet.cd 73 = .ok (.iload_n 1, 1) := by decide +kernel
theorem dX6_readSweet_74 : decode mX6_readSweet.cd 74 = .ok (.ishl, 1) := by decide +kernel
theorem dX6_readSweet_75 : decode mX6_readSweet.cd 75 = .ok (.ior, 1) := by decide +kernel
theorem dX6_readSweet_76 : decode mX6_readSweet.cd 76 = .ok (.iastore, 1) := by decide +kernel
theorem dX6_readSweet_77 : decode mX6_readSweet.cd 77 = .ok (.aload_n 0, 1) := by decide +kernel
theorem dX6_readSweet_78 : decode mX6_readSweet.cd 78 = .ok (.invokevirtual 53, 3) := by decide +kernel
theorem dX6_readSweet_81 : decode mX6_readSweet.cd 81 = .ok (.aload_n 0, 1) := by decide +kernel
theorem dX6_readSweet_82 : decode mX6_readSweet.cd 82 = .ok (.invokevirtual 148, 3) := by decide +kernel
theorem dX6_readSweet_85 : decode mX6_readSweet.cd 85 = .ok (.ireturn, 1) := by decide +kernel
theorem bX6_readSweet_0 {fr M1 M2 b1 b2 : Nat} {Q : RS → Nat → AH → Prop} {h : AH} {x1 x2 : AV} {R : AH → Prop}   (hS : Sp mX6_step true (fr - 1) 0 0 [zR 46] 137 h (rV R)) (hf : 1 ≤ fr := by omega) (kk : ∀ h' : AH, R h' → Wp mX6_readSweet (kR fr M1 M2) Q (b1, b2) 4 [zR 46, none, none] [] 137 h') : Wp mX6_readSweet (kR fr M1 M2) Q (b1, b2) 0 [zR 46, x1, x2] [] 137 h := by
  refine s_fgt (fgt_c (fgt_n _ (fgt_n _ fgt_0))) ?_
  refine s_aload_n (x := 46) dX6_readSweet_0 rfl ?_
  exact s_callV (as := []) (st := []) (o := 46) dX6_readSweet_1 kX6_53 rfl ⟨6, 12, TX6, e46, rfl, by decide⟩ rfl rfl (Nat.le_of_ble_eq_true rfl) hS (show fr - 1 + 1 ≤ fr by omega) (Nat.zero_le _) (Nat.zero_le _) (fun v n' h' hP _ => by obtain ⟨e, rfl, hR⟩ := hP; cases e; exact kk h' hR) (fun E n' h' _ z => (rV_nt _ _ _ z).elim)
theorem bX6_readSweet_4 {fr M1 M2 b1 b2 : Nat} {Q : RS → Nat → AH → Prop} {h : AH} {x1 x2 : AV} {R : Int → AH → Prop}   (hS : Sp mX6_isToldSound true (fr - 1) 0 0 [zR 46] 137 h (rI R)) (hf : 1 ≤ fr := by omega) (kk : ∀ (x : Int) (h' : AH), R x h' → Wp mX6_readSweet (kR fr M1 M2) Q (b1, b2) 8 [zR 46, none, none] [zI x] 137 h') : Wp mX6_readSweet (kR fr M1 M2) Q (b1, b2) 4 [zR 46, x1, x2] [] 137 h := by
  refine s_fgt (fgt_c (fgt_n _ (fgt_n _ fgt_0))) ?_
  refine s_aload_n (x := 46) dX6_readSweet_4 rfl ?_
  exact s_callV (as := []) (st := []) (o := 46) dX6_readSweet_5 kX6_187 rfl ⟨6, 12, TX6, e46, rfl, by decide⟩ rfl rfl (Nat.le_of_ble_eq_true rfl) hS (show fr - 1 + 1 ≤ fr by omega) (Nat.zero_le _) (Nat.zero_le _) (fun v n' h' hP _ => by obtain ⟨x, e, rfl, hR⟩ := hP; cases e; exact kk x h' hR) (fun E n' h' _ z => (rI_nt _ _ _ z).elim)
theorem bX6_readSweet_8 {fr M1 M2 b1 b2 : Nat} {Q : RS → Nat → AH → Prop} {h : AH} {s0 : Int} {x1 x2 : AV}  (r1 : -2147483648 ≤ s0 ∧ s0 < 2147483648 := by omega) (kt : ¬ s0 = 0 → Wp mX6_readSweet (kR fr M1 M2) Q (b1, b2) 13 [zR 46, none, none] [] 137 h) (kf : s0 = 0 → Wp mX6_readSweet (kR fr M1 M2) Q (b1, b2) 11 [zR 46, none, none] [] 137 h) : Wp mX6_readSweet (kR fr M1 M2) Q (b1, b2) 8 [zR 46, x1, x2] [zI s0] 137 h := by
  refine s_fgt (fgt_c (fgt_n _ (fgt_n _ fgt_0))) ?_
  exact s_if_ne (tgt := 13) dX6_readSweet_8 (by decide) r1 kt kf
theorem bX6_readSweet_11 {fr M1 M2 b1 b2 : Nat} {Q : RS → Nat → AH → Prop} {h : AH} {x0 x1 x2 : AV}   (hq : Q (.inl (some (zI 0))) 137 h) : Wp mX6_readSweet (kR fr M1 M2) Q (b1, b2) 11 [x0, x1, x2] [] 137 h := by
  refine s_fgt (fgt_n _ (fgt_n _ (fgt_n _ fgt_0))) ?_
  refine s_iconst dX6_readSweet_11 ?_
  exact s_ireturn dX6_readSweet_12 ⟨.boolean, rfl, by decide⟩ hq (fun z => by cases z)
theorem bX6_readSweet_13 {fr M1 M2 b1 b2 : Nat} {Q : RS → Nat → AH → Prop} {h : AH} {x1 x2 : AV} {R : AH → Prop}   (hS : Sp mX6_step true (fr - 1) 0 0 [zR 46] 137 h (rV R)) (hf : 1 ≤ fr := by omega) (kk : ∀ h' : AH, R h' → Wp mX6_readSweet (kR fr M1 M2) Q (b1, b2) 22 [zR 46, zI (h 46 6), none] [] 137 h') : Wp mX6_readSweet (kR fr M1 M2) Q (b1, b2) 13 [zR 46, x1, x2] [] 137 h := by
  refine s_fgt (fgt_c (fgt_n _ (fgt_n _ fgt_0))) ?_
  refine s_aload_n (x := 46) dX6_readSweet_13 rfl ?_
  refine s_get (c := 46) dX6_readSweet_14 lX6_66 e46 (by decide) ?_
  refine s_istore_n dX6_readSweet_17 rfl (by decide) ?_
  refine s_aload_n (x := 46) dX6_readSweet_18 rfl ?_
  exact s_callV (as := []) (st := []) (o := 46) dX6_readSweet_19 kX6_53 rfl ⟨6, 12, TX6, e46, rfl, by decide⟩ rfl rfl (Nat.le_of_ble_eq_true rfl) hS (show fr - 1 + 1 ≤ fr by omega) (Nat.zero_le _) (Nat.zero_le _) (fun v n' h' hP _ => by obtain ⟨e, rfl, hR⟩ := hP; cases e; exact kk h' hR) (fun E n' h' _ z => (rV_nt _ _ _ z).elim)
theorem bX6_readSweet_22 {fr M1 M2 b1 b2 : Nat} {Q : RS → Nat → AH → Prop} {h : AH} {l1 : Int} {x2 : AV} {R : Int → AH → Prop}   (hS : Sp mX6_isToldSound true (fr - 1) 0 0 [zR 46] 137 h (rI R)) (hf : 1 ≤ fr := by omega) (kk : ∀ (x : Int) (h' : AH), R x h' → Wp mX6_readSweet (kR fr M1 M2) Q (b1, b2) 26 [zR 46, zI l1, none] [zI x] 137 h') : Wp mX6_readSweet (kR fr M1 M2) Q (b1, b2) 22 [zR 46, zI l1, x2] [] 137 h := by
  refine s_fgt (fgt_c (fgt_c (fgt_n _ fgt_0))) ?_
  refine s_aload_n (x := 46) dX6_readSweet_22 rfl ?_
  exact s_callV (as := []) (st := []) (o := 46) dX6_readSweet_23 kX6_187 rfl ⟨6, 12, TX6, e46, rfl, by decide⟩ rfl rfl (Nat.le_of_ble_eq_true rfl) hS (show fr - 1 + 1 ≤ fr by omega) (Nat.zero_le _) (Nat.zero_le _) (fun v n' h' hP _ => by obtain ⟨x, e, rfl, hR⟩ := hP; cases e; exact kk x h' hR) (fun E n' h' _ z => (rI_nt _ _ _ z).elim)
theorem bX6_readSweet_26 {fr M1 M2 b1 b2 : Nat} {Q : RS → Nat → AH → Prop} {h : AH} {l1 s0 : Int} {x2 : AV}  (r1 : -2147483648 ≤ s0 ∧ s0 < 2147483648 := by omega) (kt : ¬ s0 = 0 → Wp mX6_readSweet (kR fr M1 M2) Q (b1, b2) 31 [zR 46, zI l1, none] [] 137 h) (kf : s0 = 0 → Wp mX6_readSweet (kR fr M1 M2) Q (b1, b2) 29 [zR 46, zI l1, none] [] 137 h) : Wp mX6_readSweet (kR fr M1 M2) Q (b1, b2) 26 [zR 46, zI l1, x2] [zI s0] 137 h := by
  refine s_fgt (fgt_c (fgt_c (fgt_n _ fgt_0))) ?_
  exact s_if_ne (tgt := 31) dX6_readSweet_26 (by decide) r1 kt kf
theorem bX6_readSweet_29 {fr M1 M2 b1 b2 : Nat} {Q : RS → Nat → AH → Prop} {h : AH} {x0 x1 x2 : AV}   (hq : Q (.inl (some (zI 0))) 137 h) : Wp mX6_readSweet (kR fr M1 M2) Q (b1, b2) 29 [x0, x1, x2] [] 137 h := by
  refine s_fgt (fgt_n _ (fgt_n _ (fgt_n _ fgt_0))) ?_
  refine s_iconst dX6_readSweet_29 ?_
  exact s_ireturn dX6_readSweet_30 ⟨.boolean, rfl, by decide⟩ hq (fun z => by cases z)
theorem bX6_readSweet_31 {fr M1 M2 b1 b2 : Nat} {Q : RS → Nat → AH → Prop} {h : AH} {l1 : Int} {x2 : AV}  (r1 : -2147483648 ≤ l1 ∧ l1 < 2147483648 := by omega) (r2 : -2147483648 ≤ h 46 6 ∧ h 46 6 < 2147483648 := by omega) (kt : ¬ l1 = h 46 6 → Wp mX6_readSweet (kR fr M1 M2) Q (b1, b2) 47 [zR 46, zI l1, zI (h 46 6)] [] 137 h) (kf : l1 = h 46 6 → Wp mX6_readSweet (kR fr M1 M2) Q (b1, b2) 41 [zR 46, zI l1, zI (h 46 6)] [] 137 h) : Wp mX6_readSweet (kR fr M1 M2) Q (b1, b2) 31 [zR 46, zI l1, x2] [] 137 h := by
  refine s_fgt (fgt_c (fgt_c (fgt_n _ fgt_0))) ?_
  refine s_aload_n (x := 46) dX6_readSweet_31 rfl ?_
  refine s_get (c := 46) dX6_readSweet_32 lX6_66 e46 (by decide) ?_
  refine s_istore_n dX6_readSweet_35 rfl (by decide) ?_
  refine s_iload_n (x := l1) dX6_readSweet_36 rfl ?_
  refine s_iload_n (x := h 46 6) dX6_readSweet_37 rfl ?_
  exact s_icmp_ne (tgt := 47) dX6_readSweet_38 (by decide) r1 r2 kt kf
theorem bX6_readSweet_41 {fr M1 M2 b1 b2 : Nat} {Q : RS → Nat → AH → Prop} {h : AH} {x1 x2 : AV} {R : Int → AH → Prop}   (hS : Sp mX6_fail true (fr - 1) 0 0 [zR 46, zI 4] 137 h (rI R)) (hf : 1 ≤ fr := by omega) (kk : ∀ (x : Int) (h' : AH), R x h' → Wp mX6_readSweet (kR fr M1 M2) Q (b1, b2) 46 [zR 46, none, none] [zI x] 137 h') : Wp mX6_readSweet (kR fr M1 M2) Q (b1, b2) 41 [zR 46, x1, x2] [] 137 h := by
  refine s_fgt (fgt_c (fgt_n _ (fgt_n _ fgt_0))) ?_
  refine s_aload_n (x := 46) dX6_readSweet_41 rfl ?_
  refine s_iconst dX6_readSweet_42 ?_
  exact s_callV (as := [zI 4]) (st := []) (o := 46) dX6_readSweet_43 kX6_86 rfl ⟨6, 12, TX6, e46, rfl, by decide⟩ rfl rfl (Nat.le_of_ble_eq_true rfl) hS (show fr - 1 + 1 ≤ fr by omega) (Nat.zero_le _) (Nat.zero_le _) (fun v n' h' hP _ => by obtain ⟨x, e, rfl, hR⟩ := hP; cases e; exact kk x h' hR) (fun E n' h' _ z => (rI_nt _ _ _ z).elim)
theorem bX6_readSweet_46 {fr M1 M2 b1 b2 : Nat} {Q : RS → Nat → AH → Prop} {h : AH} {s0 : Int} {x0 x1 x2 : AV}  (r1 : s0 = 0 ∨ s0 = 1 := by omega) (hq : Q (.inl (some (zI s0))) 137 h) : Wp mX6_readSweet (kR fr M1 M2) Q (b1, b2) 46 [x0, x1, x2] [zI s0] 137 h := by
  refine s_fgt (fgt_n _ (fgt_n _ (fgt_n _ fgt_0))) ?_
  exact s_ireturn dX6_readSweet_46 ⟨.boolean, rfl, bool_nar r1⟩ hq (fun z => by cases z)
theorem bX6_readSweet_47 {fr M1 M2 b1 b2 : Nat} {Q : RS → Nat → AH → Prop} {h : AH} {l1 l2 : Int} {R : AH → Prop} (c1 : cel 137 (h 46 2) (2, 21) := by first | assumption | omega) (c2 : cel 137 ((up h ((h 46 2) + 3) l1 (bOr (h ((h 46 2) + 3) l1) (1 * 2 ^ l2.toNat))) 46 2) (2, 21) := by first | assumption | omega) (r1 : 0 ≤ l1 ∧ l1 < 8 := by omega) (r2 : 0 ≤ l2 ∧ l2 < 32 := by omega) (r3 : 0 ≤ l2 ∧ l2 < 8 := by omega) (r4 : 0 ≤ l1 ∧ l1 < 32 := by omega) (hS : Sp mX6_step true (fr - 1) 0 0 [zR 46] 137 (up (up h ((h 46 2) + 3) l1 (bOr (h ((h 46 2) + 3) l1) (1 * 2 ^ l2.toNat))) (((up h ((h 46 2) + 3) l1 (bOr (h ((h 46 2) + 3) l1) (1 * 2 ^ l2.toNat))) 46 2) + 3) l2 (bOr ((up h ((h 46 2) + 3) l1 (bOr (h ((h 46 2) + 3) l1) (1 * 2 ^ l2.toNat))) (((up h ((h 46 2) + 3) l1 (bOr (h ((h 46 2) + 3) l1) (1 * 2 ^ l2.toNat))) 46 2) + 3) l2) (1 * 2 ^ l1.toNat))) (rV R)) (hf : 1 ≤ fr := by omega) (kk : ∀ h' : AH, R h' → Wp mX6_readSweet (kR fr M1 M2) Q (b1, b2) 81 [zR 46, zI l1, zI l2] [] 137 h') : Wp mX6_readSweet (kR fr M1 M2) Q (b1, b2) 47 [zR 46, zI l1, zI l2] [] 137 h := by
  refine s_aload_n (x := 46) dX6_readSweet_47 rfl ?_
  refine s_getR (c := 46) dX6_readSweet_48 lX6_25 e46 rfl ?_
  refine s_getFd (c := h 46 2) (d := (h 46 2) + 3) dX6_readSweet_51 lX6_190 c1 (Or.inl rfl) rfl (ne0 (fin_X2_9 c1)) ?_
  refine s_iload_n (x := l1) dX6_readSweet_54 rfl ?_
  refine s_dup2 dX6_readSweet_55 rfl rfl ?_
  refine s_iald (c := (h 46 2) + 3) (i := l1) dX6_readSweet_56 (fin_X2_9 c1) r1.1 r1.2 ?_
  refine s_iconst dX6_readSweet_57 ?_
  refine s_iload_n (x := l2) dX6_readSweet_58 rfl ?_
  refine s_ishlN dX6_readSweet_59 r2.1 r2.2 ?_
  refine s_ior dX6_readSweet_60 ?_
  refine s_iast (c := (h 46 2) + 3) (i := l1) dX6_readSweet_61 (fin_X2_9 c1) r1.1 r1.2 ?_
  refine s_aload_n (x := 46) dX6_readSweet_62 rfl ?_
  refine s_getR (c := 46) dX6_readSweet_63 lX6_25 e46 rfl ?_
  refine s_getFd (c := (up h ((h 46 2) + 3) l1 (bOr (h ((h 46 2) + 3) l1) (1 * 2 ^ l2.toNat))) 46 2) (d := ((up h ((h 46 2) + 3) l1 (bOr (h ((h 46 2) + 3) l1) (1 * 2 ^ l2.toNat))) 46 2) + 3) dX6_readSweet_66 lX6_190 c2 (Or.inl rfl) rfl (ne0 (fin_X2_9 c2)) ?_
  refine s_iload_n (x := l2) dX6_readSweet_69 rfl ?_
  refine s_dup2 dX6_readSweet_70 rfl rfl ?_
  refine s_iald (c := ((up h ((h 46 2) + 3) l1 (bOr (h ((h 46 2) + 3) l1) (1 * 2 ^ l2.toNat))) 46 2) + 3) (i := l2) dX6_readSweet_71 (fin_X2_9 c2) r3.1 r3.2 ?_
  refine s_iconst dX6_readSweet_72 ?_
  refine s_iload_n (x := l1) dX6_readSweet_73 rfl ?_
  refine s_ishlN dX6_readSweet_74 r4.1 r4.2 ?_
  refine s_ior dX6_readSweet_75 ?_
  refine s_iast (c := ((up h ((h 46 2) + 3) l1 (bOr (h ((h 46 2) + 3) l1) (1 * 2 ^ l2.toNat))) 46 2) + 3) (i := l2) dX6_readSweet_76 (fin_X2_9 c2) r3.1 r3.2 ?_
  refine s_aload_n (x := 46) dX6_readSweet_77 rfl ?_
  exact s_callV (as := []) (st := []) (o := 46) dX6_readSweet_78 kX6_53 rfl ⟨6, 12, TX6, e46, rfl, by decide⟩ rfl rfl (Nat.le_of_ble_eq_true rfl) hS (show fr - 1 + 1 ≤ fr by omega) (Nat.zero_le _) (Nat.zero_le _) (fun v n' h' hP _ => by obtain ⟨e, rfl, hR⟩ := hP; cases e; exact kk h' hR) (fun E n' h' _ z => (rV_nt _ _ _ z).elim)
theorem bX6_readSweet_81 {fr M1 M2 b1 b2 : Nat} {Q : RS → Nat → AH → Prop} {h : AH} {x1 x2 : AV} {R : Int → AH → Prop}   (hS : Sp mX6_readEnd true (fr - 1) 0 0 [zR 46] 137 h (rI R)) (hf : 1 ≤ fr := by omega) (kk : ∀ (x : Int) (h' : AH), R x h' → Wp mX6_readSweet (kR fr M1 M2) Q (b1, b2) 85 [zR 46, none, none] [zI x] 137 h') : Wp mX6_readSweet (kR fr M1 M2) Q (b1, b2) 81 [zR 46, x1, x2] [] 137 h := by
  refine s_fgt (fgt_c (fgt_n _ (fgt_n _ fgt_0))) ?_
  refine s_aload_n (x := 46) dX6_readSweet_81 rfl ?_
  exact s_callV (as := []) (st := []) (o := 46) dX6_readSweet_82 kX6_148 rfl ⟨6, 12, TX6, e46, rfl, by decide⟩ rfl rfl (Nat.le_of_ble_eq_true rfl) hS (show fr - 1 + 1 ≤ fr by omega) (Nat.zero_le _) (Nat.zero_le _) (fun v n' h' hP _ => by obtain ⟨x, e, rfl, hR⟩ := hP; cases e; exact kk x h' hR) (fun E n' h' _ z => (rI_nt _ _ _ z).elim)
theorem bX6_readSweet_85 {fr M1 M2 b1 b2 : Nat} {Q : RS → Nat → AH → Prop} {h : AH} {s0 : Int} {x0 x1 x2 : AV}  (r1 : s0 = 0 ∨ s0 = 1 := by omega) (hq : Q (.inl (some (zI s0))) 137 h) : Wp mX6_readSweet (kR fr M1 M2) Q (b1, b2) 85 [x0, x1, x2] [zI s0] 137 h := by
  refine s_fgt (fgt_n _ (fgt_n _ (fgt_n _ fgt_0))) ?_
  exact s_ireturn dX6_readSweet_85 ⟨.boolean, rfl, bool_nar r1⟩ hq (fun z => by cases z)
theorem dX6_readWord_0 : decode mX6_readWord.cd 0 = .ok (.aload_n 0, 1) := by decide +kernel
theorem dX6_readWord_1 : decode mX6_readWord.cd 1 = .ok (.getfield 25, 3) := by decide +kernel
theorem dX6_readWord_4 : decode mX6_readWord.cd 4 = .ok (.getfield 192, 3) := by decide +kernel
theorem dX6_readWord_7 : decode mX6_readWord.cd 7 = .ok (.istore_n 1, 1) := by decide +kernel
theorem dX6_readWord_8 : decode mX6_readWord.cd 8 = .ok (.iload_n 1, 1) := by decide +kernel
theorem dX6_readWord_9 : decode mX6_readWord.cd 9 = .ok (.bipush 8, 2) := by decide +kernel
theorem dX6_readWord_11 : decode mX6_readWord.cd 11 = .ok (.if_icmp .lt 9, 3) := by decide +kernel
theorem dX6_readWord_14 : decode mX6_readWord.cd 14 = .ok (.aload_n 0, 1) := by decide +kernel
theorem dX6_readWord_15 : decode mX6_readWord.cd 15 = .ok (.iconst 2, 1) := by decide +kernel
theorem dX6_readWord_16 : decode mX6_readWord.cd 16 = .ok (.invokevirtual 86, 3) := by decide +kernel
theorem dX6_readWord_19 : decode mX6_readWord.cd 19 = .ok (.ireturn, 1) := by decide +kernel
theorem dX6_readWord_20 : decode mX6_readWord.cd 20 = .ok (.aload_n 0, 1) := by decide +kernel
theorem dX6_readWord_21 : decode mX6_readWord.cd 21 = .ok (.invokevirtual 53, 3) := by decide +kernel
theorem dX6_readWord_24 : decode mX6_readWord.cd 24 = .ok (.aload_n 0, 1) := by decide +kernel
theorem dX6_readWord_25 : decode mX6_readWord.cd 25 = .ok (.iconst 0, 1) := by decide +kernel
theorem dX6_readWord_26 : decode mX6_readWord.cd 26 = .ok (.iconst 3, 1) := by decide +kernel
theorem dX6_readWord_27 : decode mX6_readWord.cd 27 = .ok (.invokevirtual 90, 3) := by decide +kernel
theorem dX6_readWord_30 : decode mX6_readWord.cd 30 = .ok (.ifCond .ne 5, 3) := by decide +kernel
theorem dX6_readWord_33 : decode mX6_readWord.cd 33 = .ok (.iconst 0, 1) := by decide +kernel
theorem dX6_readWord_34 : decode mX6_readWord.cd 34 = .ok (.ireturn, 1) := by decide +kernel
theorem dX6_readWord_35 : decode mX6_readWord.cd 35 = .ok (.aload_n 0, 1) := by decide +kernel
theorem dX6_readWord_36 : decode mX6_readWord.cd 36 = .ok (.getfield 25, 3) := by decide +kernel
theorem dX6_readWord_39 : decode mX6_readWord.cd 39 = .ok (.getfield 195, 3) := by decide +kernel
theorem dX6_readWord_42 : decode mX6_readWord.cd 42 = .ok (.iload_n 1, 1) := by decide +kernel
theorem dX6_readWord_43 : decode mX6_readWord.cd 43 = .ok (.aload_n 0, 1) := by decide +kernel
theorem dX6_readWord_44 : decode mX6_readWord.cd 44 = .ok (.getfield 66, 3) := by decide +kernel
theorem dX6_readWord_47 : decode mX6_readWord.cd 47 = .ok (.iastore, 1) := by decide +kernel
theorem dX6_readWord_48 : decode mX6_readWord.cd 48 = .ok (.aload_n 0, 1) := by decide +kernel
theorem dX6_readWord_49 : decode mX6_readWord.cd 49 = .ok (.getfield 25, 3) := by decide +kernel
theorem dX6_readWord_52 : decode mX6_readWord.cd 52 = .ok (.getfield 198, 3) := by decide +kernel
theorem dX6_readWord_55 : decode mX6_readWord.cd 55 = .ok (.iload_n 1, 1) := by decide +kernel
theorem dX6_readWord_56 : decode mX6_readWord.cd 56 = .ok (.iconst 0, 1) := by decide +kernel
theorem dX6_readWord_57 : decode mX6_readWord.cd 57 = .ok (.iastore, 1) := by decide +kernel
theorem dX6_readWord_58 : decode mX6_readWord.cd 58 = .ok (.aload_n 0, 1) := by decide +kernel
theorem dX6_readWord_59 : decode mX6_readWord.cd 59 = .ok (.getfield 25, 3) := by decide +kernel
theorem dX6_readWord_62 : decode mX6_readWord.cd 62 = .ok (.dup, 1) := by decide +kernel
theorem dX6_readWord_63 : decode mX6_readWord.cd 63 = .ok (.getfield 192, 3) := by decide +kernel
theorem dX6_readWord_66 : decode mX6_readWord.cd 66 = .ok (.iconst 1, 1) := by decide +kernel
theorem dX6_readWord_67 : decode mX6_readWord.cd 67 = .ok (.iadd, 1) := by decide +kernel
theorem dX6_readWord_68 : decode mX6_readWord.cd 68 = .ok (.putfield 192, 3) := by decide +kernel
theorem dX6_readWord_71 : decode mX6_readWord.cd 71 = .ok (.aload_n 0, 1) := by decide +kernel
theorem dX6_readWord_72 : decode mX6_readWord.cd 72 = .ok (.invokevirtual 53, 3) := by decide +kernel
theorem dX6_readWord_75 : decode mX6_readWord.cd 75 = .ok (.iconst 0, 1) := by decide +kernel
theorem dX6_readWord_76 : decode mX6_readWord.cd 76 = .ok (.istore_n 2, 1) := by decide +kernel
theorem dX6_readWord_77 : decode mX6_readWord.cd 77 = .ok (.iload_n 2, 1) := by decide +kernel
theorem dX6_readWord_78 : decode mX6_readWord.cd 78 = .ok (.iconst 4, 1) := by decide +kernel
theorem dX6_readWord_79 : decode mX6_readWord.cd 79 = .ok (.if_icmp .gt 75, 3) := by decide +kernel
theorem dX6_readWord_82 : decode mX6_readWord.cd 82 = .ok (.iload_n 2, 1) := by decide +kernel
theorem dX6_readWord_83 : decode mX6_readWord.cd 83 = .ok (.ifCond .eq 11, 3) := by decide +kernel
theorem dX6_readWord_86 : decode mX6_readWord.cd 86 = .ok (.aload_n 0, 1) := by decide +kernel
theorem dX6_readWord_87 : decode mX6_readWord.cd 87 = .ok (.getfield 56, 3) := by decide +kernel
theorem dX6_readWord_90 : decode mX6_readWord.cd 90 = .ok (.iconst 2, 1) := by decide +kernel
theorem dX6_readWord_91 : decode mX6_readWord.cd 91 = .ok (.if_icmp .ne 63, 3) := by decide +kernel
theorem dX6_readWord_94 : decode mX6_readWord.cd 94 = .ok (.iload_n 2, 1) := by decide +kernel
theorem dX6_readWord_95 : decode mX6_readWord.cd 95 = .ok (.iconst 4, 1) := by decide +kernel
theorem dX6_readWord_96 : decode mX6_readWord.cd 96 = .ok (.if_icmp .lt 9, 3) := by decide +kernel
theorem dX6_readWord_99 : decode mX6_readWord.cd 99 = .ok (.aload_n 0, 1) := by decide +kernel
theorem dX6_readWord_100 : decode mX6_readWord.cd 100 = .ok (.iconst 2, 1) := by decide +kernel
theorem dX6_readWord_101 : decode mX6_readWord.cd 101 = .ok (.invokevirtual 86, 3) := by decide +kernel
theorem dX6_readWord_104 : decode mX6_readWord.cd 104 = .ok (.ireturn, 1) := by decide +kernel
theorem dX6_readWord_105 : decode mX6_readWord.cd 105 = .ok (.aload_n 0, 1) := by decide +kernel
theorem dX6_readWord_106 : decode mX6_readWord.cd 106 = .ok (.invokevirtual 187, 3) := by decide +kernel
theorem dX6_readWord_109 : decode mX6_readWord.cd 109 = .ok (.ifCond .ne 5, 3) := by decide +kernel
theorem dX6_readWord_112 : decode mX6_readWord.cd 112 = .ok (.iconst 0, 1) := by decide +kernel
theorem dX6_readWord_113 : decode mX6_readWord.cd 113 = .ok (.ireturn, 1) := by decide +kernel
theorem dX6_readWord_114 : decode mX6_readWord.cd 114 = .ok (.aload_n 0, 1) := by decide +kernel
theorem dX6_readWord_115 : decode mX6_readWord.cd 115 = .ok (.getfield 25, 3) := by decide +kernel
theorem dX6_readWord_118 : decode mX6_readWord.cd 118 = .ok (.getfield 200, 3) := by decide +kernel
theorem dX6_readWord_121 : decode mX6_readWord.cd 121 = .ok (.iload_n 1, 1) := by decide +kernel
theorem dX6_readWord_122 : decode mX6_readWord.cd 122 = .ok (.iconst 4, 1) := by decide +kernel
theorem dX6_readWord_123 : decode mX6_readWord.cd 123 = .ok (.imul, 1) := by decide +kernel
theorem dX6_readWord_124 : decode mX6_readWord.cd 124 = .ok (.iload_n 2, 1) := by decide +kernel
theorem dX6_readWord_125 : decode mX6_readWord.cd 125 = .ok (.iadd, 1) := by decide +kernel
theorem dX6_readWord_126 : decode mX6_readWord.cd 126 = .ok (.aload_n 0, 1) := by decide +kernel
theorem dX6_readWord_127 : decode mX6_readWord.cd 127 = .ok (.getfield 66, 3) := by decide +kernel
theorem dX6_readWord_130 : decode mX6_readWord.cd 130 = .ok (.iastore, 1) := by decide +kernel
theorem dX6_readWord_131 : decode mX6_readWord.cd 131 = .ok (.aload_n 0, 1) := by decide +kernel
theorem dX6_readWord_132 : decode mX6_readWord.cd 132 = .ok (.getfield 25, 3) := by decide +kernel
theorem dX6_readWord_135 : decode mX6_readWord.cd 135 = .ok (.getfield 198, 3) := by decide +kernel
theorem dX6_readWord_138 : decode mX6_readWord.cd 138 = .ok (.iload_n 1, 1) := by decide +kernel
theorem dX6_readWord_139 : decode mX6_readWord.cd 139 = .ok (.dup2, 1) := by decide +kernel
theorem dX6_readWord_140 : decode mX6_readWord.cd 140 = .ok (.iaload, 1) := by decide +kernel
theorem dX6_readWord_141 : decode mX6_readWord.cd 141 = .ok (.iconst 1, 1) := by decide +kernel
theorem dX6_readWord_142 : decode mX6_readWord.cd 142 = .ok (.iadd, 1) := by decide +kernel
theorem dX6_readWord_143 : decode mX6_readWord.cd 143 = .ok (.iastore, 1) := by decide +kernel
theorem dX6_readWord_144 : decode mX6_readWord.cd 144 = .ok (.aload_n 0, 1) := by decide +kernel
theorem dX6_readWord_145 : decode mX6_readWord.cd 145 = .ok (.invokevirtual 53, 3) := by decide +kernel
theorem dX6_readWord_148 : decode mX6_readWord.cd 148 = .ok (.iinc 2 1, 3) := by decide +kernel
theorem dX6_readWord_151 : decode mX6_readWord.cd 151 = .ok (.goto (-74), 3) := by decide +kernel
theorem dX6_readWord_154 : decode mX6_readWord.cd 154 = .ok (.aload_n 0, 1) := by decide +kernel
theorem dX6_readWord_155 : decode mX6_readWord.cd 155 = .ok (.invokevirtual 148, 3) := by decide +kernel
theorem dX6_readWord_158 : decode mX6_readWord.cd 158 = .ok (.ireturn, 1) := by decide +kernel
theorem bX6_readWord_0 {fr M1 M2 b1 b2 : Nat} {Q : RS → Nat → AH → Prop} {h : AH} {x1 x2 : AV} (c1 : cel 137 (h 46 2) (2, 21) := by first | assumption | omega) (r1 : -2147483648 ≤ h (h 46 2) 2 ∧ h (h 46 2) 2 < 2147483648 := by omega) (kt : h (h 46 2) 2 < 8 → Wp mX6_readWord (kR fr M1 M2) Q (b1, b2) 20 [zR 46, zI (h (h 46 2) 2), none] [] 137 h) (kf : 8 ≤ h (h 46 2) 2 → Wp mX6_readWord (kR fr M1 M2) Q (b1, b2) 14 [zR 46, zI (h (h 46 2) 2), none] [] 137 h) : Wp mX6_readWord (kR fr M1 M2) Q (b1, b2) 0 [zR 46, x1, x2] [] 137 h := by
  refine s_fgt (fgt_c (fgt_n _ (fgt_n _ fgt_0))) ?_
  refine s_aload_n (x := 46) dX6_readWord_0 rfl ?_
  refine s_getR (c := 46) dX6_readWord_1 lX6_25 e46 rfl ?_
  refine s_get (c := h 46 2) dX6_readWord_4 lX6_192 c1 (by decide) ?_
  refine s_istore_n dX6_readWord_7 rfl (by decide) ?_
  refine s_iload_n (x := h (h 46 2) 2) dX6_readWord_8 rfl ?_
  refine s_bipush dX6_readWord_9 (by decide) ?_
  exact s_icmp_lt (tgt := 20) dX6_readWord_11 (by decide) r1 ⟨by decide, by decide⟩ kt kf
theorem bX6_readWord_14 {fr M1 M2 b1 b2 : Nat} {Q : RS → Nat → AH → Prop} {h : AH} {x1 x2 : AV} {R : Int → AH → Prop}   (hS : Sp mX6_fail true (fr - 1) 0 0 [zR 46, zI 2] 137 h (rI R)) (hf : 1 ≤ fr := by omega) (kk : ∀ (x : Int) (h' : AH), R x h' → Wp mX6_readWord (kR fr M1 M2) Q (b1, b2) 19 [zR 46, none, none] [zI x] 137 h') : Wp mX6_readWord (kR fr M1 M2) Q (b1, b2) 14 [zR 46, x1, x2] [] 137 h := by
  refine s_fgt (fgt_c (fgt_n _ (fgt_n _ fgt_0))) ?_
  refine s_aload_n (x := 46) dX6_readWord_14 rfl ?_
  refine s_iconst dX6_readWord_15 ?_
  exact s_callV (as := [zI 2]) (st := []) (o := 46) dX6_readWord_16 kX6_86 rfl ⟨6, 12, TX6, e46, rfl, by decide⟩ rfl rfl (Nat.le_of_ble_eq_true rfl) hS (show fr - 1 + 1 ≤ fr by omega) (Nat.zero_le _) (Nat.zero_le _) (fun v n' h' hP _ => by obtain ⟨x, e, rfl, hR⟩ := hP; cases e; exact kk x h' hR) (fun E n' h' _ z => (rI_nt _ _ _ z).elim)
theorem bX6_readWord_19 {fr M1 M2 b1 b2 : Nat} {Q : RS → Nat → AH → Prop} {h : AH} {s0 : Int} {x0 x1 x2 : AV}  (r1 : s0 = 0 ∨ s0 = 1 := by omega) (hq : Q (.inl (some (zI s0))) 137 h) : Wp mX6_readWord (kR fr M1 M2) Q (b1, b2) 19 [x0, x1, x2] [zI s0] 137 h := by
  refine s_fgt (fgt_n _ (fgt_n _ (fgt_n _ fgt_0))) ?_
  exact s_ireturn dX6_readWord_19 ⟨.boolean, rfl, bool_nar r1⟩ hq (fun z => by cases z)
theorem bX6_readWord_20 {fr M1 M2 b1 b2 : Nat} {Q : RS → Nat → AH → Prop} {h : AH} {l1 : Int} {x2 : AV} {R : AH → Prop}   (hS : Sp mX6_step true (fr - 1) 0 0 [zR 46] 137 h (rV R)) (hf : 1 ≤ fr := by omega) (kk : ∀ h' : AH, R h' → Wp mX6_readWord (kR fr M1 M2) Q (b1, b2) 24 [zR 46, zI l1, none] [] 137 h') : Wp mX6_readWord (kR fr M1 M2) Q (b1, b2) 20 [zR 46, zI l1, x2] [] 137 h := by
  refine s_fgt (fgt_c (fgt_c (fgt_n _ fgt_0))) ?_
  refine s_aload_n (x := 46) dX6_readWord_20 rfl ?_
  exact s_callV (as := []) (st := []) (o := 46) dX6_readWord_21 kX6_53 rfl ⟨6, 12, TX6, e46, rfl, by decide⟩ rfl rfl (Nat.le_of_ble_eq_true rfl) hS (show fr - 1 + 1 ≤ fr by omega) (Nat.zero_le _) (Nat.zero_le _) (fun v n' h' hP _ => by obtain ⟨e, rfl, hR⟩ := hP; cases e; exact kk h' hR) (fun E n' h' _ z => (rV_nt _ _ _ z).elim)
theorem bX6_readWord_24 {fr M1 M2 b1 b2 : Nat} {Q : RS → Nat → AH → Prop} {h : AH} {l1 : Int} {x2 : AV} {R : Int → AH → Prop}   (hS : Sp mX6_isNumber true (fr - 1) 0 0 [zR 46, zI 0, zI 3] 137 h (rI R)) (hf : 1 ≤ fr := by omega) (kk : ∀ (x : Int) (h' : AH), R x h' → Wp mX6_readWord (kR fr M1 M2) Q (b1, b2) 30 [zR 46, zI l1, none] [zI x] 137 h') : Wp mX6_readWord (kR fr M1 M2) Q (b1, b2) 24 [zR 46, zI l1, x2] [] 137 h := by
  refine s_fgt (fgt_c (fgt_c (fgt_n _ fgt_0))) ?_
  refine s_aload_n (x := 46) dX6_readWord_24 rfl ?_
  refine s_iconst dX6_readWord_25 ?_
  refine s_iconst dX6_readWord_26 ?_
  exact s_callV (as := [zI 0, zI 3]) (st := []) (o := 46) dX6_readWord_27 kX6_90 rfl ⟨6, 12, TX6, e46, rfl, by decide⟩ rfl rfl (Nat.le_of_ble_eq_true rfl) hS (show fr - 1 + 1 ≤ fr by omega) (Nat.zero_le _) (Nat.zero_le _) (fun v n' h' hP _ => by obtain ⟨x, e, rfl, hR⟩ := hP; cases e; exact kk x h' hR) (fun E n' h' _ z => (rI_nt _ _ _ z).elim)
theorem bX6_readWord_30 {fr M1 M2 b1 b2 : Nat} {Q : RS → Nat → AH → Prop} {h : AH} {l1 s0 : Int} {x2 : AV}  (r1 : -2147483648 ≤ s0 ∧ s0 < 2147483648 := by omega) (kt : ¬ s0 = 0 → Wp mX6_readWord (kR fr M1 M2) Q (b1, b2) 35 [zR 46, zI l1, none] [] 137 h) (kf : s0 = 0 → Wp mX6_readWord (kR fr M1 M2) Q (b1, b2) 33 [zR 46, zI l1, none] [] 137 h) : Wp mX6_readWord (kR fr M1 M2) Q (b1, b2) 30 [zR 46, zI l1, x2] [zI s0] 137 h := by
  refine s_fgt (fgt_c (fgt_c (fgt_n _ fgt_0))) ?_
  exact s_if_ne (tgt := 35) dX6_readWord_30 (by decide) r1 kt kf
theorem bX6_readWord_33 {fr M1 M2 b1 b2 : Nat} {Q : RS → Nat → AH → Prop} {h : AH} {x0 x1 x2 : AV}   (hq : Q (.inl (some (zI 0))) 137 h) : Wp mX6_readWord (kR fr M1 M2) Q (b1, b2) 33 [x0, x1, x2] [] 137 h := by
  refine s_fgt (fgt_n _ (fgt_n _ (fgt_n _ fgt_0))) ?_
  refine s_iconst dX6_readWord_33 ?_
  exact s_ireturn dX6_readWord_34 ⟨.boolean, rfl, by decide⟩ hq (fun z => by cases z)
theorem bX6_readWord_35 {fr M1 M2 b1 b2 : Nat} {Q : RS → Nat → AH → Prop} {h : AH} {l1 : Int} {x2 : AV} {R : AH → Prop} (c1 : cel 137 (h 46 2) (2, 21) := by first | assumption | omega) (c2 : cel 137 ((up h ((h 46 2) + 10) l1 (h 46 6)) 46 2) (2, 21) := by first | assumption | omega) (c3 : cel 137 ((up (up h ((h 46 2) + 10) l1 (h 46 6)) (((up h ((h 46 2) + 10) l1 (h 46 6)) 46 2) + 11) l1 0) 46 2) (2, 21) := by first | assumption | omega) (r1 : 0 ≤ l1 ∧ l1 < 8 := by omega) (hS : Sp mX6_step true (fr - 1) 0 0 [zR 46] 137 (up (up (up h ((h 46 2) + 10) l1 (h 46 6)) (((up h ((h 46 2) + 10) l1 (h 46 6)) 46 2) + 11) l1 0) ((up (up h ((h 46 2) + 10) l1 (h 46 6)) (((up h ((h 46 2) + 10) l1 (h 46 6)) 46 2) + 11) l1 0) 46 2) 2 (((up (up h ((h 46 2) + 10) l1 (h 46 6)) (((up h ((h 46 2) + 10) l1 (h 46 6)) 46 2) + 11) l1 0) ((up (up h ((h 46 2) + 10) l1 (h 46 6)) (((up h ((h 46 2) + 10) l1 (h 46 6)) 46 2) + 11) l1 0) 46 2) 2) + 1)) (rV R)) (hf : 1 ≤ fr := by omega) (kk : ∀ h' : AH, R h' → Wp mX6_readWord (kR fr M1 M2) Q (b1, b2) 75 [zR 46, zI l1, none] [] 137 h') : Wp mX6_readWord (kR fr M1 M2) Q (b1, b2) 35 [zR 46, zI l1, x2] [] 137 h := by
  refine s_fgt (fgt_c (fgt_c (fgt_n _ fgt_0))) ?_
  refine s_aload_n (x := 46) dX6_readWord_35 rfl ?_
  refine s_getR (c := 46) dX6_readWord_36 lX6_25 e46 rfl ?_
  refine s_getFd (c := h 46 2) (d := (h 46 2) + 10) dX6_readWord_39 lX6_195 c1 (Or.inl rfl) rfl (ne0 (fin_X2_16 c1)) ?_
  refine s_iload_n (x := l1) dX6_readWord_42 rfl ?_
  refine s_aload_n (x := 46) dX6_readWord_43 rfl ?_
  refine s_get (c := 46) dX6_readWord_44 lX6_66 e46 (by decide) ?_
  refine s_iast (c := (h 46 2) + 10) (i := l1) dX6_readWord_47 (fin_X2_16 c1) r1.1 r1.2 ?_
  refine s_aload_n (x := 46) dX6_readWord_48 rfl ?_
  refine s_getR (c := 46) dX6_readWord_49 lX6_25 e46 rfl ?_
  refine s_getFd (c := (up h ((h 46 2) + 10) l1 (h 46 6)) 46 2) (d := ((up h ((h 46 2) + 10) l1 (h 46 6)) 46 2) + 11) dX6_readWord_52 lX6_198 c2 (Or.inl rfl) rfl (ne0 (fin_X2_17 c2)) ?_
  refine s_iload_n (x := l1) dX6_readWord_55 rfl ?_
  refine s_iconst dX6_readWord_56 ?_
  refine s_iast (c := ((up h ((h 46 2) + 10) l1 (h 46 6)) 46 2) + 11) (i := l1) dX6_readWord_57 (fin_X2_17 c2) r1.1 r1.2 ?_
  refine s_aload_n (x := 46) dX6_readWord_58 rfl ?_
  refine s_getR (c := 46) dX6_readWord_59 lX6_25 e46 rfl ?_
  refine s_dup dX6_readWord_62 rfl ?_
  refine s_get (c := (up (up h ((h 46 2) + 10) l1 (h 46 6)) (((up h ((h 46 2) + 10) l1 (h 46 6)) 46 2) + 11) l1 0) 46 2) dX6_readWord_63 lX6_192 c3 (by decide) ?_
  refine s_iconst dX6_readWord_66 ?_
  refine s_iadd dX6_readWord_67 ?_
  refine s_put (c := (up (up h ((h 46 2) + 10) l1 (h 46 6)) (((up h ((h 46 2) + 10) l1 (h 46 6)) 46 2) + 11) l1 0) 46 2) dX6_readWord_68 lX6_192 c3 ?_
  refine s_aload_n (x := 46) dX6_readWord_71 rfl ?_
  exact s_callV (as := []) (st := []) (o := 46) dX6_readWord_72 kX6_53 rfl ⟨6, 12, TX6, e46, rfl, by decide⟩ rfl rfl (Nat.le_of_ble_eq_true rfl) hS (show fr - 1 + 1 ≤ fr by omega) (Nat.zero_le _) (Nat.zero_le _) (fun v n' h' hP _ => by obtain ⟨e, rfl, hR⟩ := hP; cases e; exact kk h' hR) (fun E n' h' _ z => (rV_nt _ _ _ z).elim)
theorem bX6_readWord_75 {fr M1 M2 b1 b2 : Nat} {Q : RS → Nat → AH → Prop} {h : AH} {l1 : Int} {x2 : AV}   (kk : Wp mX6_readWord (kR fr M1 M2) Q (b1, b2) 77 [zR 46, zI l1, zI 0] [] 137 h) : Wp mX6_readWord (kR fr M1 M2) Q (b1, b2) 75 [zR 46, zI l1, x2] [] 137 h := by
  refine s_fgt (fgt_c (fgt_c (fgt_n _ fgt_0))) ?_
  refine s_iconst dX6_readWord_75 ?_
  refine s_istore_n dX6_readWord_76 rfl (by decide) ?_
  exact kk
theorem bX6_readWord_77 {fr M1 M2 b1 b2 : Nat} {Q : RS → Nat → AH → Prop} {h : AH} {l1 l2 : Int}  (r1 : -2147483648 ≤ l2 ∧ l2 < 2147483648 := by omega) (kt : 4 < l2 → Wp mX6_readWord (kR fr M1 M2) Q (b1, b2) 154 [zR 46, zI l1, zI l2] [] 137 h) (kf : l2 ≤ 4 → Wp mX6_readWord (kR fr M1 M2) Q (b1, b2) 82 [zR 46, zI l1, zI l2] [] 137 h) : Wp mX6_readWord (kR fr M1 M2) Q (b1, b2) 77 [zR 46, zI l1, zI l2] [] 137 h := by
  refine s_iload_n (x := l2) dX6_readWord_77 rfl ?_
  refine s_iconst dX6_readWord_78 ?_
  exact s_icmp_gt (tgt := 154) dX6_readWord_79 (by decide) r1 ⟨by decide, by decide⟩ kt kf
theorem bX6_readWord_82 {fr M1 M2 b1 b2 : Nat} {Q : RS → Nat → AH → Prop} {h : AH} {l1 l2 : Int}  (r1 : -2147483648 ≤ l2 ∧ l2 < 2147483648 := by omega) (kt : l2 = 0 → Wp mX6_readWord (kR fr M1 M2) Q (b1, b2) 94 [zR 46, zI l1, zI l2] [] 137 h) (kf : ¬ l2 = 0 → Wp mX6_readWord (kR fr M1 M2) Q (b1, b2) 86 [zR 46, zI l1, zI l2] [] 137 h) : Wp mX6_readWord (kR fr M1 M2) Q (b1, b2) 82 [zR 46, zI l1, zI l2] [] 137 h := by
  refine s_iload_n (x := l2) dX6_readWord_82 rfl ?_
  exact s_if_eq (tgt := 94) dX6_readWord_83 (by decide) r1 kt kf
theorem bX6_readWord_86 {fr M1 M2 b1 b2 : Nat} {Q : RS → Nat → AH → Prop} {h : AH} {l1 l2 : Int}  (r1 : -2147483648 ≤ h 46 3 ∧ h 46 3 < 2147483648 := by omega) (kt : ¬ h 46 3 = 2 → Wp mX6_readWord (kR fr M1 M2) Q (b1, b2) 154 [zR 46, zI l1, zI l2] [] 137 h) (kf : h 46 3 = 2 → Wp mX6_readWord (kR fr M1 M2) Q (b1, b2) 94 [zR 46, zI l1, zI l2] [] 137 h) : Wp mX6_readWord (kR fr M1 M2) Q (b1, b2) 86 [zR 46, zI l1, zI l2] [] 137 h := by
  refine s_aload_n (x := 46) dX6_readWord_86 rfl ?_
  refine s_get (c := 46) dX6_readWord_87 lX6_56 e46 (by decide) ?_
  refine s_iconst dX6_readWord_90 ?_
  exact s_icmp_ne (tgt := 154) dX6_readWord_91 (by decide) r1 ⟨by decide, by decide⟩ kt kf
theorem bX6_readWord_94 {fr M1 M2 b1 b2 : Nat} {Q : RS → Nat → AH → Prop} {h : AH} {l1 l2 : Int}  (r1 : -2147483648 ≤ l2 ∧ l2 < 2147483648 := by omega) (kt : l2 < 4 → Wp mX6_readWord (kR fr M1 M2) Q (b1, b2) 105 [zR 46, zI l1, zI l2] [] 137 h) (kf : 4 ≤ l2 → Wp mX6_readWord (kR fr M1 M2) Q (b1, b2) 99 [zR 46, zI l1, zI l2] [] 137 h) : Wp mX6_readWord (kR fr M1 M2) Q (b1, b2) 94 [zR 46, zI l1, zI l2] [] 137 h := by
  refine s_iload_n (x := l2) dX6_readWord_94 rfl ?_
  refine s_iconst dX6_readWord_95 ?_
  exact s_icmp_lt (tgt := 105) dX6_readWord_96 (by decide) r1 ⟨by decide, by decide⟩ kt kf
theorem bX6_readWord_99 {fr M1 M2 b1 b2 : Nat} {Q : RS → Nat → AH → Prop} {h : AH} {x1 x2 : AV} {R : Int → AH → Prop}   (hS : Sp mX6_fail true (fr - 1) 0 0 [zR 46, zI 2] 137 h (rI R)) (hf : 1 ≤ fr := by omega) (kk : ∀ (x : Int) (h' : AH), R x h' → Wp mX6_readWord (kR fr M1 M2) Q (b1, b2) 104 [zR 46, none, none] [zI x] 137 h') : Wp mX6_readWord (kR fr M1 M2) Q (b1, b2) 99 [zR 46, x1, x2] [] 137 h := by
  refine s_fgt (fgt_c (fgt_n _ (fgt_n _ fgt_0))) ?_
  refine s_aload_n (x := 46) dX6_readWord_99 rfl ?_
  refine s_iconst dX6_readWord_100 ?_
  exact s_callV (as := [zI 2]) (st := []) (o := 46) dX6_readWord_101 kX6_86 rfl ⟨6, 12, TX6, e46, rfl, by decide⟩ rfl rfl (Nat.le_of_ble_eq_true rfl) hS (show fr - 1 + 1 ≤ fr by omega) (Nat.zero_le _) (Nat.zero_le _) (fun v n' h' hP _ => by obtain ⟨x, e, rfl, hR⟩ := hP; cases e; exact kk x h' hR) (fun E n' h' _ z => (rI_nt _ _ _ z).elim)
theorem bX6_readWord_104 {fr M1 M2 b1 b2 : Nat} {Q : RS → Nat → AH → Prop} {h : AH} {s0 : Int} {x0 x1 x2 : AV}  (r1 : s0 = 0 ∨ s0 = 1 := by omega) (hq : Q (.inl (some (zI s0))) 137 h) : Wp mX6_readWord (kR fr M1 M2) Q (b1, b2) 104 [x0, x1, x2] [zI s0] 137 h := by
  refine s_fgt (fgt_n _ (fgt_n _ (fgt_n _ fgt_0))) ?_
  exact s_ireturn dX6_readWord_104 ⟨.boolean, rfl, bool_nar r1⟩ hq (fun z => by cases z)
theorem bX6_readWord_105 {fr M1 M2 b1 b2 : Nat} {Q : RS → Nat → AH → Prop} {h : AH} {l1 l2 : Int} {R : Int → AH → Prop}   (hS : Sp mX6_isToldSound true (fr - 1) 0 0 [zR 46] 137 h (rI R)) (hf : 1 ≤ fr := by omega) (kk : ∀ (x : Int) (h' : AH), R x h' → Wp mX6_readWord (kR fr M1 M2) Q (b1, b2) 109 [zR 46, zI l1, zI l2] [zI x] 137 h') : Wp mX6_readWord (kR fr M1 M2) Q (b1, b2) 105 [zR 46, zI l1, zI l2] [] 137 h := by
  refine s_aload_n (x := 46) dX6_readWord_105 rfl ?_
  exact s_callV (as := []) (st := []) (o := 46) dX6_readWord_106 kX6_187 rfl ⟨6, 12, TX6, e46, rfl, by decide⟩ rfl rfl (Nat.le_of_ble_eq_true rfl) hS (show fr - 1 + 1 ≤ fr by omega) (Nat.zero_le _) (Nat.zero_le _) (fun v n' h' hP _ => by obtain ⟨x, e, rfl, hR⟩ := hP; cases e; exact kk x h' hR) (fun E n' h' _ z => (rI_nt _ _ _ z).elim)
theorem bX6_readWord_109 {fr M1 M2 b1 b2 : Nat} {Q : RS → Nat → AH → Prop} {h : AH} {l1 l2 s0 : Int}  (r1 : -2147483648 ≤ s0 ∧ s0 < 2147483648 := by omega) (kt : ¬ s0 = 0 → Wp mX6_readWord (kR fr M1 M2) Q (b1, b2) 114 [zR 46, zI l1, zI l2] [] 137 h) (kf : s0 = 0 → Wp mX6_readWord (kR fr M1 M2) Q (b1, b2) 112 [zR 46, zI l1, zI l2] [] 137 h) : Wp mX6_readWord (kR fr M1 M2) Q (b1, b2) 109 [zR 46, zI l1, zI l2] [zI s0] 137 h := by
  exact s_if_ne (tgt := 114) dX6_readWord_109 (by decide) r1 kt kf
theorem bX6_readWord_112 {fr M1 M2 b1 b2 : Nat} {Q : RS → Nat → AH → Prop} {h : AH} {x0 x1 x2 : AV}   (hq : Q (.inl (some (zI 0))) 137 h) : Wp mX6_readWord (kR fr M1 M2) Q (b1, b2) 112 [x0, x1, x2] [] 137 h := by
  refine s_fgt (fgt_n _ (fgt_n _ (fgt_n _ fgt_0))) ?_
  refine s_iconst dX6_readWord_112 ?_
  exact s_ireturn dX6_readWord_113 ⟨.boolean, rfl, by decide⟩ hq (fun z => by cases z)
theorem bX6_readWord_114 {fr M1 M2 b1 b2 : Nat} {Q : RS → Nat → AH → Prop} {h : AH} {l1 l2 : Int} {R : AH → Prop} (c1 : cel 137 (h 46 2) (2, 21) := by first | assumption | omega) (c2 : cel 137 ((up h ((h 46 2) + 12) ((l1 * 4) + l2) (h 46 6)) 46 2) (2, 21) := by first | assumption | omega) (r1 : 0 ≤ (l1 * 4) + l2 ∧ (l1 * 4) + l2 < 32 := by omega) (r2 : 0 ≤ l1 ∧ l1 < 8 := by omega) (hS : Sp mX6_step true (fr - 1) 0 0 [zR 46] 137 (up (up h ((h 46 2) + 12) ((l1 * 4) + l2) (h 46 6)) (((up h ((h 46 2) + 12) ((l1 * 4) + l2) (h 46 6)) 46 2) + 11) l1 (((up h ((h 46 2) + 12) ((l1 * 4) + l2) (h 46 6)) (((up h ((h 46 2) + 12) ((l1 * 4) + l2) (h 46 6)) 46 2) + 11) l1) + 1)) (rV R)) (hf : 1 ≤ fr := by omega) (kk : ∀ h' : AH, R h' → Wp mX6_readWord (kR fr M1 M2) Q (b1, b2) 148 [zR 46, zI l1, zI l2] [] 137 h') : Wp mX6_readWord (kR fr M1 M2) Q (b1, b2) 114 [zR 46, zI l1, zI l2] [] 137 h := by
  refine s_aload_n (x := 46) dX6_readWord_114 rfl ?_
  refine s_getR (c := 46) dX6_readWord_115 lX6_25 e46 rfl ?_
  refine s_getFd (c := h 46 2) (d := (h 46 2) + 12) dX6_readWord_118 lX6_200 c1 (Or.inl rfl) rfl (ne0 (fin_X2_18 c1)) ?_
  refine s_iload_n (x := l1) dX6_readWord_121 rfl ?_
  refine s_iconst dX6_readWord_122 ?_
  refine s_imul dX6_readWord_123 ?_
  refine s_iload_n (x := l2) dX6_readWord_124 rfl ?_
  refine s_iadd dX6_readWord_125 ?_
  refine s_aload_n (x := 46) dX6_readWord_126 rfl ?_
  refine s_get (c := 46) dX6_readWord_127 lX6_66 e46 (by decide) ?_
  refine s_iast (c := (h 46 2) + 12) (i := (l1 * 4) + l2) dX6_readWord_130 (fin_X2_18 c1) r1.1 r1.2 ?_
  refine s_aload_n (x := 46) dX6_readWord_131 rfl ?_
  refine s_getR (c := 46) dX6_readWord_132 lX6_25 e46 rfl ?_
  refine s_getFd (c := (up h ((h 46 2) + 12) ((l1 * 4) + l2) (h 46 6)) 46 2) (d := ((up h ((h 46 2) + 12) ((l1 * 4) + l2) (h 46 6)) 46 2) + 11) dX6_readWord_135 lX6_198 c2 (Or.inl rfl) rfl (ne0 (fin_X2_17 c2)) ?_
  refine s_iload_n (x := l1) dX6_readWord_138 rfl ?_
  refine s_dup2 dX6_readWord_139 rfl rfl ?_
  refine s_iald (c := ((up h ((h 46 2) + 12) ((l1 * 4) + l2) (h 46 6)) 46 2) + 11) (i := l1) dX6_readWord_140 (fin_X2_17 c2) r2.1 r2.2 ?_
  refine s_iconst dX6_readWord_141 ?_
  refine s_iadd dX6_readWord_142 ?_
  refine s_iast (c := ((up h ((h 46 2) + 12) ((l1 * 4) + l2) (h 46 6)) 46 2) + 11) (i := l1) dX6_readWord_143 (fin_X2_17 c2) r2.1 r2.2 ?_
  refine s_aload_n (x := 46) dX6_readWord_144 rfl ?_
  exact s_callV (as := []) (st := []) (o := 46) dX6_readWord_145 kX6_53 rfl ⟨6, 12, TX6, e46, rfl, by decide⟩ rfl rfl (Nat.le_of_ble_eq_true rfl) hS (show fr - 1 + 1 ≤ fr by omega) (Nat.zero_le _) (Nat.zero_le _) (fun v n' h' hP _ => by obtain ⟨e, rfl, hR⟩ := hP; cases e; exact kk h' hR) (fun E n' h' _ z => (rV_nt _ _ _ z).elim)
theorem bX6_readWord_148 {fr M1 M2 b1 b2 : Nat} {Q : RS → Nat → AH → Prop} {h : AH} {l1 l2 : Int}   (kk : Wp mX6_readWord (kR fr M1 M2) Q (b1, b2) 77 [zR 46, zI l1, zI (l2 + 1)] [] 137 h) : Wp mX6_readWord (kR fr M1 M2) Q (b1, b2) 148 [zR 46, zI l1, zI l2] [] 137 h := by
  refine s_iinc (x := l2) dX6_readWord_148 rfl rfl (by decide) ?_
  exact s_goto (tgt := 77) dX6_readWord_151 (by decide) kk
theorem bX6_readWord_154 {fr M1 M2 b1 b2 : Nat} {Q : RS → Nat → AH → Prop} {h : AH} {x1 x2 : AV} {R : Int → AH → Prop}   (hS : Sp mX6_readEnd true (fr - 1) 0 0 [zR 46] 137 h (rI R)) (hf : 1 ≤ fr := by omega) (kk : ∀ (x : Int) (h' : AH), R x h' → Wp mX6_readWord (kR fr M1 M2) Q (b1, b2) 158 [zR 46, none, none] [zI x] 137 h') : Wp mX6_readWord (kR fr M1 M2) Q (b1, b2) 154 [zR 46, x1, x2] [] 137 h := by
  refine s_fgt (fgt_c (fgt_n _ (fgt_n _ fgt_0))) ?_
  refine s_aload_n (x := 46) dX6_readWord_154 rfl ?_
  exact s_callV (as := []) (st := []) (o := 46) dX6_readWord_155 kX6_148 rfl ⟨6, 12, TX6, e46, rfl, by decide⟩ rfl rfl (Nat.le_of_ble_eq_true rfl) hS (show fr - 1 + 1 ≤ fr by omega) (Nat.zero_le _) (Nat.zero_le _) (fun v n' h' hP _ => by obtain ⟨x, e, rfl, hR⟩ := hP; cases e; exact kk x h' hR) (fun E n' h' _ z => (rI_nt _ _ _ z).elim)
theorem bX6_readWord_158 {fr M1 M2 b1 b2 : Nat} {Q : RS → Nat → AH → Prop} {h : AH} {s0 : Int} {x0 x1 x2 : AV}  (r1 : s0 = 0 ∨ s0 = 1 := by omega) (hq : Q (.inl (some (zI s0))) 137 h) : Wp mX6_readWord (kR fr M1 M2) Q (b1, b2) 158 [x0, x1, x2] [zI s0] 137 h := by
  refine s_fgt (fgt_n _ (fgt_n _ (fgt_n _ fgt_0))) ?_
  exact s_ireturn dX6_readWord_158 ⟨.boolean, rfl, bool_nar r1⟩ hq (fun z => by cases z)
theorem dX6_readForm_0 : decode mX6_readForm.cd 0 = .ok (.aload_n 0, 1) := by decide +kernel
theorem dX6_readForm_1 : decode mX6_readForm.cd 1 = .ok (.getfield 25, 3) := by decide +kernel
theorem dX6_readForm_4 : decode mX6_readForm.cd 4 = .ok (.getfield 203, 3) := by decide +kernel
theorem dX6_readForm_7 : decode mX6_readForm.cd 7 = .ok (.istore_n 1, 1) := by decide +kernel
theorem dX6_readForm_8 : decode mX6_readForm.cd 8 = .ok (.iload_n 1, 1) := by decide +kernel
theorem dX6_readForm_9 : decode mX6_readForm.cd 9 = .ok (.bipush 6, 2) := by decide +kernel
theorem dX6_readForm_11 : decode mX6_readForm.cd 11 = .ok (.if_icmp .lt 9, 3) := by decide +kernel
theorem dX6_readForm_14 : decode mX6_readForm.cd 14 = .ok (.aload_n 0, 1) := by decide +kernel
theorem dX6_readForm_15 : decode mX6_readForm.cd 15 = .ok (.iconst 2, 1) := by decide +kernel
theorem dX6_readForm_16 : decode mX6_readForm.cd 16 = .ok (.invokevirtual 86, 3) := by decide +kernel
theorem dX6_readForm_19 : decode mX6_readForm.cd 19 = .ok (.ireturn, 1) := by decide +kernel
theorem dX6_readForm_20 : decode mX6_readForm.cd 20 = .ok (.aload_n 0, 1) := by decide +kernel
theorem dX6_readForm_21 : decode mX6_readForm.cd 21 = .ok (.getfield 25, 3) := by decide +kernel
theorem dX6_readForm_24 : decode mX6_readForm.cd 24 = .ok (.getfield 206, 3) := by decide +kernel
theorem dX6_readForm_27 : decode mX6_readForm.cd 27 = .ok (.iload_n 1, 1) := by decide +kernel
theorem dX6_readForm_28 : decode mX6_readForm.cd 28 = .ok (.iconst 0, 1) := by decide +kernel
theorem dX6_readForm_29 : decode mX6_readForm.cd 29 = .ok (.iastore, 1) := by decide +kernel
theorem dX6_readForm_30 : decode mX6_readForm.cd 30 = .ok (.aload_n 0, 1) := by decide +kernel
theorem dX6_readForm_31 : decode mX6_readForm.cd 31 = .ok (.getfield 25, 3) := by decide +kernel
theorem dX6_readForm_34 : decode mX6_readForm.cd 34 = .ok (.dup, 1) := by decide +kernel
theorem dX6_readForm_35 : decode mX6_readForm.cd 35 = .ok (.getfield 203, 3) := by decide +kernel
theorem dX6_readForm_38 : decode mX6_readForm.cd 38 = .ok (.iconst 1, 1) := by decide +kernel
theorem dX6_readForm_39 : decode mX6_readForm.cd 39 = .ok (.iadd, 1) := by decide +kernel
theorem dX6_readForm_40 : decode mX6_readForm.cd 40 = .ok (.putfield 203, 3) := by decide +kernel
theorem dX6_readForm_43 : decode mX6_readForm.cd 43 = .ok (.aload_n 0, 1) := by decide +kernel
theorem dX6_readForm_44 : decode mX6_readForm.cd 44 = .ok (.invokevirtual 53, 3) := by decide +kernel
theorem dX6_readForm_47 : decode mX6_readForm.cd 47 = .ok (.iconst 0, 1) := by decide +kernel
theorem dX6_readForm_48 : decode mX6_readForm.cd 48 = .ok (.istore_n 2, 1) := by decide +kernel
theorem dX6_readForm_49 : decode mX6_readForm.cd 49 = .ok (.iload_n 2, 1) := by decide +kernel
theorem dX6_readForm_50 : decode mX6_readForm.cd 50 = .ok (.iconst 3, 1) := by decide +kernel
theorem dX6_readForm_51 : decode mX6_readForm.cd 51 = .ok (.if_icmp .gt 77, 3) := by decide +kernel
theorem dX6_readForm_54 : decode mX6_readForm.cd 54 = .ok (.iload_n 2, 1) := by decide +kernel
theorem dX6_readForm_55 : decode mX6_readForm.cd 55 = .ok (.ifCond .eq 11, 3) := by decide +kernel
theorem dX6_readForm_58 : decode mX6_readForm.cd 58 = .ok (.aload_n 0, 1) := by decide +kernel
theorem dX6_readForm_59 : decode mX6_readForm.cd 59 = .ok (.getfield 56, 3) := by decide +kernel
theorem dX6_readForm_62 : decode mX6_readForm.cd 62 = .ok (.iconst 2, 1) := by decide +kernel
theorem dX6_readForm_63 : decode mX6_readForm.cd 63 = .ok (.if_icmp .ne 65, 3) := by decide +kernel
theorem dX6_readForm_66 : decode mX6_readForm.cd 66 = .ok (.iload_n 2, 1) := by decide +kernel
theorem dX6_readForm_67 : decode mX6_readForm.cd 67 = .ok (.iconst 3, 1) := by decide +kernel
theorem dX6_readForm_68 : decode mX6_readForm.cd 68 = .ok (.if_icmp .lt 9, 3) := by decide +kernel
theorem dX6_readForm_71 : decode mX6_readForm.cd 71 = .ok (.aload_n 0, 1) := by decide +kernel
theorem dX6_readForm_72 : decode mX6_readForm.cd 72 = .ok (.iconst 2, 1) := by decide +kernel
theorem dX6_readForm_73 : decode mX6_readForm.cd 73 = .ok (.invokevirtual 86, 3) := by decide +kernel
theorem dX6_readForm_76 : decode mX6_readForm.cd 76 = .ok (.ireturn, 1) := by decide +kernel
theorem dX6_readForm_77 : decode mX6_readForm.cd 77 = .ok (.aload_n 0, 1) := by decide +kernel
theorem dX6_readForm_78 : decode mX6_readForm.cd 78 = .ok (.iconst 0, 1) := by decide +kernel
theorem dX6_readForm_79 : decode mX6_readForm.cd 79 = .ok (.iconst 3, 1) := by decide +kernel
theorem dX6_readForm_80 : decode mX6_readForm.cd 80 = .ok (.invokevirtual 90, 3) := by decide +kernel
theorem dX6_readForm_83 : decode mX6_readForm.cd 83 = .ok (.ifCond .ne 5, 3) := by decide +kernel
theorem dX6_readForm_86 : decode mX6_readForm.cd 86 = .ok (.iconst 0, 1) := by decide +kernel
theorem dX6_readForm_87 : decode mX6_readForm.cd 87 = .ok (.ireturn, 1) := by decide +kernel
theorem dX6_readForm_88 : decode mX6_readForm.cd 88 = .ok (.aload_n 0, 1) := by decide +kernel
theorem dX6_readForm_89 : decode mX6_readForm.cd 89 = .ok (.getfield 25, 3) := by decide +kernel
theorem dX6_readForm_92 : decode mX6_readForm.cd 92 = .ok (.getfield 209, 3) := by decide +kernel
theorem dX6_readForm_95 : decode mX6_readForm.cd 95 = .ok (.iload_n 1, 1) := by decide +kernel
theorem dX6_readForm_96 : decode mX6_readForm.cd 96 = .ok (.iconst 3, 1) := by decide +kernel
theorem dX6_readForm_97 : decode mX6_readForm.cd 97 = .ok (.imul, 1) := by decide +kernel
theorem dX6_readForm_98 : decode mX6_readForm.cd 98 = .ok (.iload_n 2, 1) := by decide +kernel
theorem dX6_readForm_99 : decode mX6_readForm.cd 99 = .ok (.iadd, 1) := by decide +kernel
theorem dX6_readForm_100 : decode mX6_readForm.cd 100 = .ok (.aload_n 0, 1) := by decide +kernel
theorem dX6_readForm_101 : decode mX6_readForm.cd 101 = .ok (.getfield 66, 3) := by decide +kernel
theorem dX6_readForm_104 : decode mX6_readForm.cd 104 = .ok (.iastore, 1) := by decide +kernel
theorem dX6_readForm_105 : decode mX6_readForm.cd 105 = .ok (.aload_n 0, 1) := by decide +kernel
theorem dX6_readForm_106 : decode mX6_readForm.cd 106 = .ok (.getfield 25, 3) := by decide +kernel
theorem dX6_readForm_109 : decode mX6_readForm.cd 109 = .ok (.getfield 206, 3) := by decide +kernel
theorem dX6_readForm_112 : decode mX6_readForm.cd 112 = .ok (.iload_n 1, 1) := by decide +kernel
theorem dX6_readForm_113 : decode mX6_readForm.cd 113 = .ok (.dup2, 1) := by decide +kernel
theorem dX6_readForm_114 : decode mX6_readForm.cd 114 = .ok (.iaload, 1) := by decide +kernel
theorem dX6_readForm_115 : decode mX6_readForm.cd 115 = .ok (.iconst 1, 1) := by decide +kernel
theorem dX6_readForm_116 : decode mX6_readForm.cd 116 = .ok (.iadd, 1) := by decide +kernel
theorem dX6_readForm_117 : decode mX6_readForm.cd 117 = .ok (.iastore, 1) := by decide +kernel
theorem dX6_readForm_118 : decode mX6_readForm.cd 118 = .ok (.aload_n 0, 1) := by decide +kernel
theorem dX6_readForm_119 : decode mX6_readForm.cd 119 = .ok (.invokevirtual 53, 3) := by decide +kernel
theorem dX6_readForm_122 : decode mX6_readForm.cd 122 = .ok (.iinc 2 1, 3) := by decide +kernel
theorem dX6_readForm_125 : decode mX6_readForm.cd 125 = .ok (.goto (-76), 3) := by decide +kernel
theorem dX6_readForm_128 : decode mX6_readForm.cd 128 = .ok (.aload_n 0, 1) := by decide +kernel
theorem dX6_readForm_129 : decode mX6_readForm.cd 129 = .ok (.invokevirtual 148, 3) := by decide +kernel
theorem dX6_readForm_132 : decode mX6_readForm.cd 132 = .ok (.ireturn, 1) := by decide +kernel
theorem bX6_readForm_0 {fr M1 M2 b1 b2 : Nat} {Q : RS → Nat → AH → Prop} {h : AH} {x1 x2 : AV} (c1 : cel 137 (h 46 2) (2, 21) := by first | assumption | omega) (r1 : -2147483648 ≤ h (h 46 2) 3 ∧ h (h 46 2) 3 < 2147483648 := by omega) (kt : h (h 46 2) 3 < 6 → Wp mX6_readForm (kR fr M1 M2) Q (b1, b2) 20 [zR 46, zI (h (h 46 2) 3), none] [] 137 h) (kf : 6 ≤ h (h 46 2) 3 → Wp mX6_readForm (kR fr M1 M2) Q (b1, b2) 14 [zR 46, zI (h (h 46 2) 3), none] [] 137 h) : Wp mX6_readForm (kR fr M1 M2) Q (b1, b2) 0 [zR 46, x1, x2] [] 137 h := by
  refine s_fgt (fgt_c (fgt_n _ (fgt_n _ fgt_0))) ?_
  refine s_aload_n (x := 46) dX6_readForm_0 rfl ?_
  refine s_getR (c := 46) dX6_readForm_1 lX6_25 e46 rfl ?_
  refine s_get (c := h 46 2) dX6_readForm_4 lX6_203 c1 (by decide) ?_
  refine s_istore_n dX6_readForm_7 rfl (by decide) ?_
  refine s_iload_n (x := h (h 46 2) 3) dX6_readForm_8 rfl ?_
  refine s_bipush dX6_readForm_9 (by decide) ?_
  exact s_icmp_lt (tgt := 20) dX6_readForm_11 (by decide) r1 ⟨by decide, by decide⟩ kt kf
theorem bX6_readForm_14 {fr M1 M2 b1 b2 : Nat} {Q : RS → Nat → AH → Prop} {h : AH} {x1 x2 : AV} {R : Int → AH → Prop}   (hS : Sp mX6_fail true (fr - 1) 0 0 [zR 46, zI 2] 137 h (rI R)) (hf : 1 ≤ fr := by omega) (kk : ∀ (x : Int) (h' : AH), R x h' → Wp mX6_readForm (kR fr M1 M2) Q (b1, b2) 19 [zR 46, none, none] [zI x] 137 h') : Wp mX6_readForm (kR fr M1 M2) Q (b1, b2) 14 [zR 46, x1, x2] [] 137 h := by
  refine s_fgt (fgt_c (fgt_n _ (fgt_n _ fgt_0))) ?_
  refine s_aload_n (x := 46) dX6_readForm_14 rfl ?_
  refine s_iconst dX6_readForm_15 ?_
  exact s_callV (as := [zI 2]) (st := []) (o := 46) dX6_readForm_16 kX6_86 rfl ⟨6, 12, TX6, e46, rfl, by decide⟩ rfl rfl (Nat.le_of_ble_eq_true rfl) hS (show fr - 1 + 1 ≤ fr by omega) (Nat.zero_le _) (Nat.zero_le _) (fun v n' h' hP _ => by obtain ⟨x, e, rfl, hR⟩ := hP; cases e; exact kk x h' hR) (fun E n' h' _ z => (rI_nt _ _ _ z).elim)
theorem bX6_readForm_19 {fr M1 M2 b1 b2 : Nat} {Q : RS → Nat → AH → Prop} {h : AH} {s0 : Int} {x0 x1 x2 : AV}  (r1 : s0 = 0 ∨ s0 = 1 := by omega) (hq : Q (.inl (some (zI s0))) 137 h) : Wp mX6_readForm (kR fr M1 M2) Q (b1, b2) 19 [x0, x1, x2] [zI s0] 137 h := by
  refine s_fgt (fgt_n _ (fgt_n _ (fgt_n _ fgt_0))) ?_
  exact s_ireturn dX6_readForm_19 ⟨.boolean, rfl, bool_nar r1⟩ hq (fun z => by cases z)
theorem bX6_readForm_20 {fr M1 M2 b1 b2 : Nat} {Q : RS → Nat → AH → Prop} {h : AH} {l1 : Int} {x2 : AV} {R : AH → Prop} (c1 : cel 137 (h 46 2) (2, 21) := by first | assumption | omega) (c2 : cel 137 ((up h ((h 46 2) + 13) l1 0) 46 2) (2, 21) := by first | assumption | omega) (r1 : 0 ≤ l1 ∧ l1 < 6 := by omega) (hS : Sp mX6_step true (fr - 1) 0 0 [zR 46] 137 (up (up h ((h 46 2) + 13) l1 0) ((up h ((h 46 2) + 13) l1 0) 46 2) 3 (((up h ((h 46 2) + 13) l1 0) ((up h ((h 46 2) + 13) l1 0) 46 2) 3) + 1)) (rV R)) (hf : 1 ≤ fr := by omega) (kk : ∀ h' : AH, R h' → Wp mX6_readForm (kR fr M1 M2) Q (b1, b2) 47 [zR 46, zI l1, none] [] 137 h') : Wp mX6_readForm (kR fr M1 M2) Q (b1, b2) 20 [zR 46, zI l1, x2] [] 137 h := by
  refine s_fgt (fgt_c (fgt_c (fgt_n _ fgt_0))) ?_
  refine s_aload_n (x := 46) dX6_readForm_20 rfl ?_
  refine s_getR (c := 46) dX6_readForm_21 lX6_25 e46 rfl ?_
  refine s_getFd (c := h 46 2) (d := (h 46 2) + 13) dX6_readForm_24 lX6_206 c1 (Or.inl rfl) rfl (ne0 (fin_X2_19 c1)) ?_
  refine s_iload_n (x := l1) dX6_readForm_27 rfl ?_
  refine s_iconst dX6_readForm_28 ?_
  refine s_iast (c := (h 46 2) + 13) (i := l1) dX6_readForm_29 (fin_X2_19 c1) r1.1 r1.2 ?_
  refine s_aload_n (x := 46) dX6_readForm_30 rfl ?_
  refine s_getR (c := 46) dX6_readForm_31 lX6_25 e46 rfl ?_
  refine s_dup dX6_readForm_34 rfl ?_
  refine s_get (c := (up h ((h 46 2) + 13) l1 0) 46 2) dX6_readForm_35 lX6_203 c2 (by decide) ?_
  refine s_iconst dX6_readForm_38 ?_
  refine s_iadd dX6_readForm_39 ?_
  refine s_put (c := (up h ((h 46 2) + 13) l1 0) 46 2) dX6_readForm_40 lX6_203 c2 ?_
  refine s_aload_n (x := 46) dX6_readForm_43 rfl ?_
  exact s_callV (as := []) (st := []) (o := 46) dX6_readForm_44 kX6_53 rfl ⟨6, 12, TX6, e46, rfl, by decide⟩ rfl rfl (Nat.le_of_ble_eq_true rfl) hS (show fr - 1 + 1 ≤ fr by omega) (Nat.zero_le _) (Nat.zero_le _) (fun v n' h' hP _ => by obtain ⟨e, rfl, hR⟩ := hP; cases e; exact kk h' hR) (fun E n' h' _ z => (rV_nt _ _ _ z).elim)
theorem bX6_readForm_47 {fr M1 M2 b1 b2 : Nat} {Q : RS → Nat → AH → Prop} {h : AH} {l1 : Int} {x2 : AV}   (kk : Wp mX6_readForm (kR fr M1 M2) Q (b1, b2) 49 [zR 46, zI l1, zI 0] [] 137 h) : Wp mX6_readForm (kR fr M1 M2) Q (b1, b2) 47 [zR 46, zI l1, x2] [] 137 h := by
  refine s_fgt (fgt_c (fgt_c (fgt_n _ fgt_0))) ?_
  refine s_iconst dX6_readForm_47 ?_
  refine s_istore_n dX6_readForm_48 rfl (by decide) ?_
  exact kk
theorem bX6_readForm_49 {fr M1 M2 b1 b2 : Nat} {Q : RS → Nat → AH → Prop} {h : AH} {l1 l2 : Int}  (r1 : -2147483648 ≤ l2 ∧ l2 < 2147483648 := by omega) (kt : 3 < l2 → Wp mX6_readForm (kR fr M1 M2) Q (b1, b2) 128 [zR 46, zI l1, zI l2] [] 137 h) (kf : l2 ≤ 3 → Wp mX6_readForm (kR fr M1 M2) Q (b1, b2) 54 [zR 46, zI l1, zI l2] [] 137 h) : Wp mX6_readForm (kR fr M1 M2) Q (b1, b2) 49 [zR 46, zI l1, zI l2] [] 137 h := by
  refine s_iload_n (x := l2) dX6_readForm_49 rfl ?_
  refine s_iconst dX6_readForm_50 ?_
  exact s_icmp_gt (tgt := 128) dX6_readForm_51 (by decide) r1 ⟨by decide, by decide⟩ kt kf
theorem bX6_readForm_54 {fr M1 M2 b1 b2 : Nat} {Q : RS → Nat → AH → Prop} {h : AH} {l1 l2 : Int}  (r1 : -2147483648 ≤ l2 ∧ l2 < 2147483648 := by omega) (kt : l2 = 0 → Wp mX6_readForm (kR fr M1 M2) Q (b1, b2) 66 [zR 46, zI l1, zI l2] [] 137 h) (kf : ¬ l2 = 0 → Wp mX6_readForm (kR fr M1 M2) Q (b1, b2) 58 [zR 46, zI l1, zI l2] [] 137 h) : Wp mX6_readForm (kR fr M1 M2) Q (b1, b2) 54 [zR 46, zI l1, zI l2] [] 137 h := by
  refine s_iload_n (x := l2) dX6_readForm_54 rfl ?_
  exact s_if_eq (tgt := 66) dX6_readForm_55 (by decide) r1 kt kf
theorem bX6_readForm_58 {fr M1 M2 b1 b2 : Nat} {Q : RS → Nat → AH → Prop} {h : AH} {l1 l2 : Int}  (r1 : -2147483648 ≤ h 46 3 ∧ h 46 3 < 2147483648 := by omega) (kt : ¬ h 46 3 = 2 → Wp mX6_readForm (kR fr M1 M2) Q (b1, b2) 128 [zR 46, zI l1, zI l2] [] 137 h) (kf : h 46 3 = 2 → Wp mX6_readForm (kR fr M1 M2) Q (b1, b2) 66 [zR 46, zI l1, zI l2] [] 137 h) : Wp mX6_readForm (kR fr M1 M2) Q (b1, b2) 58 [zR 46, zI l1, zI l2] [] 137 h := by
  refine s_aload_n (x := 46) dX6_readForm_58 rfl ?_
  refine s_get (c := 46) dX6_readForm_59 lX6_56 e46 (by decide) ?_
  refine s_iconst dX6_readForm_62 ?_
  exact s_icmp_ne (tgt := 128) dX6_readForm_63 (by decide) r1 ⟨by decide, by decide⟩ kt kf
theorem bX6_readForm_66 {fr M1 M2 b1 b2 : Nat} {Q : RS → Nat → AH → Prop} {h : AH} {l1 l2 : Int}  (r1 : -2147483648 ≤ l2 ∧ l2 < 2147483648 := by omega) (kt : l2 < 3 → Wp mX6_readForm (kR fr M1 M2) Q (b1, b2) 77 [zR 46, zI l1, zI l2] [] 137 h) (kf : 3 ≤ l2 → Wp mX6_readForm (kR fr M1 M2) Q (b1, b2) 71 [zR 46, zI l1, zI l2] [] 137 h) : Wp mX6_readForm (kR fr M1 M2) Q (b1, b2) 66 [zR 46, zI l1, zI l2] [] 137 h := by
  refine s_iload_n (x := l2) dX6_readForm_66 rfl ?_
  refine s_iconst dX6_readForm_67 ?_
  exact s_icmp_lt (tgt := 77) dX6_readForm_68 (by decide) r1 ⟨by decide, by decide⟩ kt kf
theorem bX6_readForm_71 {fr M1 M2 b1 b2 : Nat} {Q : RS → Nat → AH → Prop} {h : AH} {x1 x2 : AV} {R : Int → AH → Prop}   (hS : Sp mX6_fail true (fr - 1) 0 0 [zR 46, zI 2] 137 h (rI R)) (hf : 1 ≤ fr := by omega) (kk : ∀ (x : Int) (h' : AH), R x h' → Wp mX6_readForm (kR fr M1 M2) Q (b1, b2) 76 [zR 46, none, none] [zI x] 137 h') : Wp mX6_readForm (kR fr M1 M2) Q (b1, b2) 71 [zR 46, x1, x2] [] 137 h := by
  refine s_fgt (fgt_c (fgt_n _ (fgt_n _ fgt_0))) ?_
  refine s_aload_n (x := 46) dX6_readForm_71 rfl ?_
  refine s_iconst dX6_readForm_72 ?_
  exact s_callV (as := [zI 2]) (st := []) (o := 46) dX6_readForm_73 kX6_86 rfl ⟨6, 12, TX6, e46, rfl, by decide⟩ rfl rfl (Nat.le_of_ble_eq_true rfl) hS (show fr - 1 + 1 ≤ fr by omega) (Nat.zero_le _) (Nat.zero_le _) (fun v n' h' hP _ => by obtain ⟨x, e, rfl, hR⟩ := hP; cases e; exact kk x h' hR) (fun E n' h' _ z => (rI_nt _ _ _ z).elim)
theorem bX6_readForm_76 {fr M1 M2 b1 b2 : Nat} {Q : RS → Nat → AH → Prop} {h : AH} {s0 : Int} {x0 x1 x2 : AV}  (r1 : s0 = 0 ∨ s0 = 1 := by omega) (hq : Q (.inl (some (zI s0))) 137 h) : Wp mX6_readForm (kR fr M1 M2) Q (b1, b2) 76 [x0, x1, x2] [zI s0] 137 h := by
  refine s_fgt (fgt_n _ (fgt_n _ (fgt_n _ fgt_0))) ?_
  exact s_ireturn dX6_readForm_76 ⟨.boolean, rfl, bool_nar r1⟩ hq (fun z => by cases z)
theorem bX6_readForm_77 {fr M1 M2 b1 b2 : Nat} {Q : RS → Nat → AH → Prop} {h : AH} {l1 l2 : Int} {R : Int → AH → Prop}   (hS : Sp mX6_isNumber true (fr - 1) 0 0 [zR 46, zI 0, zI 3] 137 h (rI R)) (hf : 1 ≤ fr := by omega) (kk : ∀ (x : Int) (h' : AH), R x h' → Wp mX6_readForm (kR fr M1 M2) Q (b1, b2) 83 [zR 46, zI l1, zI l2] [zI x] 137 h') : Wp mX6_readForm (kR fr M1 M2) Q (b1, b2) 77 [zR 46, zI l1, zI l2] [] 137 h := by
  refine s_aload_n (x := 46) dX6_readForm_77 rfl ?_
  refine s_iconst dX6_readForm_78 ?_
  refine s_iconst dX6_readForm_79 ?_
  exact s_callV (as := [zI 0, zI 3]) (st := []) (o := 46) dX6_readForm_80 kX6_90 rfl ⟨6, 12, TX6, e46, rfl, by decide⟩ rfl rfl (Nat.le_of_ble_eq_true rfl) hS (show fr - 1 + 1 ≤ fr by omega) (Nat.zero_le _) (Nat.zero_le _) (fun v n' h' hP _ => by obtain ⟨x, e, rfl, hR⟩ := hP; cases e; exact kk x h' hR) (fun E n' h' _ z => (rI_nt _ _ _ z).elim)
theorem bX6_readForm_83 {fr M1 M2 b1 b2 : Nat} {Q : RS → Nat → AH → Prop} {h : AH} {l1 l2 s0 : Int}  (r1 : -2147483648 ≤ s0 ∧ s0 < 2147483648 := by omega) (kt : ¬ s0 = 0 → Wp mX6_readForm (kR fr M1 M2) Q (b1, b2) 88 [zR 46, zI l1, zI l2] [] 137 h) (kf : s0 = 0 → Wp mX6_readForm (kR fr M1 M2) Q (b1, b2) 86 [zR 46, zI l1, zI l2] [] 137 h) : Wp mX6_readForm (kR fr M1 M2) Q (b1, b2) 83 [zR 46, zI l1, zI l2] [zI s0] 137 h := by
  exact s_if_ne (tgt := 88) dX6_readForm_83 (by decide) r1 kt kf
theorem bX6_readForm_86 {fr M1 M2 b1 b2 : Nat} {Q : RS → Nat → AH → Prop} {h : AH} {x0 x1 x2 : AV}   (hq : Q (.inl (some (zI 0))) 137 h) : Wp mX6_readForm (kR fr M1 M2) Q (b1, b2) 86 [x0, x1, x2] [] 137 h := by
  refine s_fgt (fgt_n _ (fgt_n _ (fgt_n _ fgt_0))) ?_
  refine s_iconst dX6_readForm_86 ?_
  exact s_ireturn dX6_readForm_87 ⟨.boolean, rfl, by decide⟩ hq (fun z => by cases z)
theorem bX6_readForm_88 {fr M1 M2 b1 b2 : Nat} {Q : RS → Nat → AH → Prop} {h : AH} {l1 l2 : Int} {R : AH → Prop} (c1 : cel 137 (h 46 2) (2, 21) := by first | assumption | omega) (c2 : cel 137 ((up h ((h 46 2) + 14) ((l1 * 3) + l2) (h 46 6)) 46 2) (2, 21) := by first | assumption | omega) (r1 : 0 ≤ (l1 * 3) + l2 ∧ (l1 * 3) + l2 < 18 := by omega) (r2 : 0 ≤ l1 ∧ l1 < 6 := by omega) (hS : Sp mX6_step true (fr - 1) 0 0 [zR 46] 137 (up (up h ((h 46 2) + 14) ((l1 * 3) + l2) (h 46 6)) (((up h ((h 46 2) + 14) ((l1 * 3) + l2) (h 46 6)) 46 2) + 13) l1 (((up h ((h 46 2) + 14) ((l1 * 3) + l2) (h 46 6)) (((up h ((h 46 2) + 14) ((l1 * 3) + l2) (h 46 6)) 46 2) + 13) l1) + 1)) (rV R)) (hf : 1 ≤ fr := by omega) (kk : ∀ h' : AH, R h' → Wp mX6_readForm (kR fr M1 M2) Q (b1, b2) 122 [zR 46, zI l1, zI l2] [] 137 h') : Wp mX6_readForm (kR fr M1 M2) Q (b1, b2) 88 [zR 46, zI l1, zI l2] [] 137 h := by
  refine s_aload_n (x := 46) dX6_readForm_88 rfl ?_
  refine s_getR (c := 46) dX6_readForm_89 lX6_25 e46 rfl ?_
  refine s_getFd (c := h 46 2) (d := (h 46 2) + 14) dX6_readForm_92 lX6_209 c1 (Or.inl rfl) rfl (ne0 (fin_X2_20 c1)) ?_
  refine s_iload_n (x := l1) dX6_readForm_95 rfl ?_
  refine s_iconst dX6_readForm_96 ?_
  refine s_imul dX6_readForm_97 ?_
  refine s_iload_n (x := l2) dX6_readForm_98 rfl ?_
  refine s_iadd dX6_readForm_99 ?_
  refine s_aload_n (x := 46) dX6_readForm_100 rfl ?_
  refine s_get (c := 46) dX6_readForm_101 lX6_66 e46 (by decide) ?_
  refine s_iast (c := (h 46 2) + 14) (i := (l1 * 3) + l2) dX6_readForm_104 (fin_X2_20 c1) r1.1 r1.2 ?_
  refine s_aload_n (x := 46) dX6_readForm_105 rfl ?_
  refine s_getR (c := 46) dX6_readForm_106 lX6_25 e46 rfl ?_
  refine s_getFd (c := (up h ((h 46 2) + 14) ((l1 * 3) + l2) (h 46 6)) 46 2) (d := ((up h ((h 46 2) + 14) ((l1 * 3) + l2) (h 46 6)) 46 2) + 13) dX6_readForm_109 lX6_206 c2 (Or.inl rfl) rfl (ne0 (fin_X2_19 c2)) ?_
  refine s_iload_n (x := l1) dX6_readForm_112 rfl ?_
  refine s_dup2 dX6_readForm_113 rfl rfl ?_
  refine s_iald (c := ((up h ((h 46 2) + 14) ((l1 * 3) + l2) (h 46 6)) 46 2) + 13) (i := l1) dX6_readForm_114 (fin_X2_19 c2) r2.1 r2.2 ?_
  refine s_iconst dX6_readForm_115 ?_
  refine s_iadd dX6_readForm_116 ?_
  refine s_iast (c := ((up h ((h 46 2) + 14) ((l1 * 3) + l2) (h 46 6)) 46 2) + 13) (i := l1) dX6_readForm_117 (fin_X2_19 c2) r2.1 r2.2 ?_
  refine s_aload_n (x := 46) dX6_readForm_118 rfl ?_
  exact s_callV (as := []) (st := []) (o := 46) dX6_readForm_119 kX6_53 rfl ⟨6, 12, TX6, e46, rfl, by decide⟩ rfl rfl (Nat.le_of_ble_eq_true rfl) hS (show fr - 1 + 1 ≤ fr by omega) (Nat.zero_le _) (Nat.zero_le _) (fun v n' h' hP _ => by obtain ⟨e, rfl, hR⟩ := hP; cases e; exact kk h' hR) (fun E n' h' _ z => (rV_nt _ _ _ z).elim)
theorem bX6_readForm_122 {fr M1 M2 b1 b2 : Nat} {Q : RS → Nat → AH → Prop} {h : AH} {l1 l2 : Int}   (kk : Wp mX6_readForm (kR fr M1 M2) Q (b1, b2) 49 [zR 46, zI l1, zI (l2 + 1)] [] 137 h) : Wp mX6_readForm (kR fr M1 M2) Q (b1, b2) 122 [zR 46, zI l1, zI l2] [] 137 h := by
  refine s_iinc (x := l2) dX6_readForm_122 rfl rfl (by decide) ?_
  exact s_goto (tgt := 49) dX6_readForm_125 (by decide) kk
theorem bX6_readForm_128 {fr M1 M2 b1 b2 : Nat} {Q : RS → Nat → AH → Prop} {h : AH} {x1 x2 : AV} {R : Int → AH → Prop}   (hS : Sp mX6_readEnd true (fr - 1) 0 0 [zR 46] 137 h (rI R)) (hf : 1 ≤ fr := by omega) (kk : ∀ (x : Int) (h' : AH), R x h' → Wp mX6_readForm (kR fr M1 M2) Q (b1, b2) 132 [zR 46, none, none] [zI x] 137 h') : Wp mX6_readForm (kR fr M1 M2) Q (b1, b2) 128 [zR 46, x1, x2] [] 137 h := by
  refine s_fgt (fgt_c (fgt_n _ (fgt_n _ fgt_0))) ?_
  refine s_aload_n (x := 46) dX6_readForm_128 rfl ?_
  exact s_callV (as := []) (st := []) (o := 46) dX6_readForm_129 kX6_148 rfl ⟨6, 12, TX6, e46, rfl, by decide⟩ rfl rfl (Nat.le_of_ble_eq_true rfl) hS (show fr - 1 + 1 ≤ fr by omega) (Nat.zero_le _) (Nat.zero_le _) (fun v n' h' hP _ => by obtain ⟨x, e, rfl, hR⟩ := hP; cases e; exact kk x h' hR) (fun E n' h' _ z => (rI_nt _ _ _ z).elim)
theorem bX6_readForm_132 {fr M1 M2 b1 b2 : Nat} {Q : RS → Nat → AH → Prop} {h : AH} {s0 : Int} {x0 x1 x2 : AV}  (r1 : s0 = 0 ∨ s0 = 1 := by omega) (hq : Q (.inl (some (zI s0))) 137 h) : Wp mX6_readForm (kR fr M1 M2) Q (b1, b2) 132 [x0, x1, x2] [zI s0] 137 h := by
  refine s_fgt (fgt_n _ (fgt_n _ (fgt_n _ fgt_0))) ?_
  exact s_ireturn dX6_readForm_132 ⟨.boolean, rfl, bool_nar r1⟩ hq (fun z => by cases z)
