theorem dX0_clashes_0 : decode mX0_clashes.cd 0 = .ok (.iconst 0, 1) := by decide +kernel
theorem dX0_clashes_1 : decode mX0_clashes.cd 1 = .ok (.istore 5, 2) := by decide +kernel
theorem dX0_clashes_3 : decode mX0_clashes.cd 3 = .ok (.iconst 0, 1) := by decide +kernel
theorem dX0_clashes_4 : decode mX0_clashes.cd 4 = .ok (.istore 6, 2) := by decide +kernel
theorem dX0_clashes_6 : decode mX0_clashes.cd 6 = .ok (.iload 6, 2) := by decide +kernel
theorem dX0_clashes_8 : decode mX0_clashes.cd 8 = .ok (.iload 4, 2) := by decide +kernel
theorem dX0_clashes_10 : decode mX0_clashes.cd 10 = .ok (.if_icmp .ge 30, 3) := by decide +kernel
theorem dX0_clashes_13 : decode mX0_clashes.cd 13 = .ok (.aload_n 1, 1) := by decide +kernel
theorem dX0_clashes_14 : decode mX0_clashes.cd 14 = .ok (.aload_n 0, 1) := by decide +kernel
theorem dX0_clashes_15 : decode mX0_clashes.cd 15 = .ok (.aload_n 1, 1) := by decide +kernel
theorem dX0_clashes_16 : decode mX0_clashes.cd 16 = .ok (.aload_n 2, 1) := by decide +kernel
theorem dX0_clashes_17 : decode mX0_clashes.cd 17 = .ok (.aload_n 3, 1) := by decide +kernel
theorem dX0_clashes_18 : decode mX0_clashes.cd 18 = .ok (.iload 4, 2) := by decide +kernel
theorem dX0_clashes_20 : decode mX0_clashes.cd 20 = .ok (.iload 6, 2) := by decide +kernel
theorem dX0_clashes_22 : decode mX0_clashes.cd 22 = .ok (.invokevirtual 15, 3) := by decide +kernel
theorem dX0_clashes_25 : decode mX0_clashes.cd 25 = .ok (.invokestatic 19, 3) := by decide +kernel
theorem dX0_clashes_28 : decode mX0_clashes.cd 28 = .ok (.ifCond .eq 6, 3) := by decide +kernel
theorem dX0_clashes_31 : decode mX0_clashes.cd 31 = .ok (.iinc 5 1, 3) := by decide +kernel
theorem dX0_clashes_34 : decode mX0_clashes.cd 34 = .ok (.iinc 6 1, 3) := by decide +kernel
theorem dX0_clashes_37 : decode mX0_clashes.cd 37 = .ok (.goto (-31), 3) := by decide +kernel
theorem dX0_clashes_40 : decode mX0_clashes.cd 40 = .ok (.iload 5, 2) := by decide +kernel
theorem dX0_clashes_42 : decode mX0_clashes.cd 42 = .ok (.ireturn, 1) := by decide +kernel
theorem bX0_clashes_0 {fr M1 M2 b1 b2 : Nat} {Q : RS → Nat → AH → Prop} {h : AH} {l1 l2 l3 l4 : Int} {x5 x6 : AV}   (kk : Wp mX0_clashes (kR fr M1 M2) Q (b1, b2) 6 [zR 80, zR l1, zR l2, zR l3, zI l4, zI 0, zI 0] [] 137 h) : Wp mX0_clashes (kR fr M1 M2) Q (b1, b2) 0 [zR 80, zR l1, zR l2, zR l3, zI l4, x5, x6] [] 137 h := by
  refine s_fgt (fgt_c (fgt_c (fgt_c (fgt_c (fgt_c (fgt_n _ (fgt_n _ fgt_0))))))) ?_
  refine s_iconst dX0_clashes_0 ?_
  refine s_istore dX0_clashes_1 rfl (by decide) ?_
  refine s_iconst dX0_clashes_3 ?_
  refine s_istore dX0_clashes_4 rfl (by decide) ?_
  exact kk
theorem bX0_clashes_6 {fr M1 M2 b1 b2 : Nat} {Q : RS → Nat → AH → Prop} {h : AH} {l1 l2 l3 l4 l5 l6 : Int}  (r1 : -2147483648 ≤ l6 ∧ l6 < 2147483648 := by omega) (r2 : -2147483648 ≤ l4 ∧ l4 < 2147483648 := by omega) (kt : l4 ≤ l6 → Wp mX0_clashes (kR fr M1 M2) Q (b1, b2) 40 [zR 80, zR l1, zR l2, zR l3, zI l4, zI l5, zI l6] [] 137 h) (kf : l6 < l4 → Wp mX0_clashes (kR fr M1 M2) Q (b1, b2) 13 [zR 80, zR l1, zR l2, zR l3, zI l4, zI l5, zI l6] [] 137 h) : Wp mX0_clashes (kR fr M1 M2) Q (b1, b2) 6 [zR 80, zR l1, zR l2, zR l3, zI l4, zI l5, zI l6] [] 137 h := by
  refine s_iload (x := l6) dX0_clashes_6 rfl ?_
  refine s_iload (x := l4) dX0_clashes_8 rfl ?_
  exact s_icmp_ge (tgt := 40) dX0_clashes_10 (by decide) r1 r2 kt kf
theorem bX0_clashes_13 {fr M1 M2 b1 b2 : Nat} {Q : RS → Nat → AH → Prop} {h : AH} {l1 l2 l3 l4 l5 l6 : Int} {R : Int → AH → Prop}   (hS : Sp mX0_listen true (fr - 1) 0 0 [zR 80, zR l1, zR l2, zR l3, zI l4, zI l6] 137 h (rI R)) (hf : 1 ≤ fr := by omega) (kk : ∀ (x : Int) (h' : AH), R x h' → Wp mX0_clashes (kR fr M1 M2) Q (b1, b2) 25 [zR 80, zR l1, zR l2, zR l3, zI l4, zI l5, zI l6] [zI x, zR l1] 137 h') : Wp mX0_clashes (kR fr M1 M2) Q (b1, b2) 13 [zR 80, zR l1, zR l2, zR l3, zI l4, zI l5, zI l6] [] 137 h := by
  refine s_aload_n (x := l1) dX0_clashes_13 rfl ?_
  refine s_aload_n (x := 80) dX0_clashes_14 rfl ?_
  refine s_aload_n (x := l1) dX0_clashes_15 rfl ?_
  refine s_aload_n (x := l2) dX0_clashes_16 rfl ?_
  refine s_aload_n (x := l3) dX0_clashes_17 rfl ?_
  refine s_iload (x := l4) dX0_clashes_18 rfl ?_
  refine s_iload (x := l6) dX0_clashes_20 rfl ?_
  exact s_callV (as := [zR l1, zR l2, zR l3, zI l4, zI l6]) (st := [zR l1]) (o := 80) dX0_clashes_22 kX0_15 rfl ⟨0, 1, TX0, e80, rfl, by decide⟩ rfl rfl (Nat.le_of_ble_eq_true rfl) hS (show fr - 1 + 1 ≤ fr by omega) (Nat.zero_le _) (Nat.zero_le _) (fun v n' h' hP _ => by obtain ⟨x, e, rfl, hR⟩ := hP; cases e; exact kk x h' hR) (fun E n' h' _ z => (rI_nt _ _ _ z).elim)
theorem bX0_clashes_25 {fr M1 M2 b1 b2 : Nat} {Q : RS → Nat → AH → Prop} {h : AH} {l1 l2 l3 l4 l5 l6 s1 s0 : Int} {R : Int → AH → Prop}   (hS : Sp mX0_isClash true (fr - 1) 0 0 [zR s1, zI s0] 137 h (rI R)) (hf : 1 ≤ fr := by omega) (kk : ∀ (x : Int) (h' : AH), R x h' → Wp mX0_clashes (kR fr M1 M2) Q (b1, b2) 28 [zR 80, zR l1, zR l2, zR l3, zI l4, zI l5, zI l6] [zI x] 137 h') : Wp mX0_clashes (kR fr M1 M2) Q (b1, b2) 25 [zR 80, zR l1, zR l2, zR l3, zI l4, zI l5, zI l6] [zI s0, zR s1] 137 h := by
  exact s_callS (as := [zR s1, zI s0]) (st := []) dX0_clashes_25 kX0_19 rfl rfl (Nat.le_of_ble_eq_true rfl) hS (show fr - 1 + 1 ≤ fr by omega) (Nat.zero_le _) (Nat.zero_le _) (fun v n' h' hP _ => by obtain ⟨x, e, rfl, hR⟩ := hP; cases e; exact kk x h' hR) (fun E n' h' _ z => (rI_nt _ _ _ z).elim)
theorem bX0_clashes_28 {fr M1 M2 b1 b2 : Nat} {Q : RS → Nat → AH → Prop} {h : AH} {l1 l2 l3 l4 l5 l6 s0 : Int}  (r1 : -2147483648 ≤ s0 ∧ s0 < 2147483648 := by omega) (kt : s0 = 0 → Wp mX0_clashes (kR fr M1 M2) Q (b1, b2) 34 [zR 80, zR l1, zR l2, zR l3, zI l4, zI l5, zI l6] [] 137 h) (kf : ¬ s0 = 0 → Wp mX0_clashes (kR fr M1 M2) Q (b1, b2) 31 [zR 80, zR l1, zR l2, zR l3, zI l4, zI l5, zI l6] [] 137 h) : Wp mX0_clashes (kR fr M1 M2) Q (b1, b2) 28 [zR 80, zR l1, zR l2, zR l3, zI l4, zI l5, zI l6] [zI s0] 137 h := by
  exact s_if_eq (tgt := 34) dX0_clashes_28 (by decide) r1 kt kf
theorem bX0_clashes_31 {fr M1 M2 b1 b2 : Nat} {Q : RS → Nat → AH → Prop} {h : AH} {l1 l2 l3 l4 l5 l6 : Int}   (kk : Wp mX0_clashes (kR fr M1 M2) Q (b1, b2) 34 [zR 80, zR l1, zR l2, zR l3, zI l4, zI (l5 + 1), zI l6] [] 137 h) : Wp mX0_clashes (kR fr M1 M2) Q (b1, b2) 31 [zR 80, zR l1, zR l2, zR l3, zI l4, zI l5, zI l6] [] 137 h := by
  refine s_iinc (x := l5) dX0_clashes_31 rfl rfl (by decide) ?_
  exact kk
theorem bX0_clashes_34 {fr M1 M2 b1 b2 : Nat} {Q : RS → Nat → AH → Prop} {h : AH} {l1 l2 l3 l4 l5 l6 : Int}   (kk : Wp mX0_clashes (kR fr M1 M2) Q (b1, b2) 6 [zR 80, zR l1, zR l2, zR l3, zI l4, zI l5, zI (l6 + 1)] [] 137 h) : Wp mX0_clashes (kR fr M1 M2) Q (b1, b2) 34 [zR 80, zR l1, zR l2, zR l3, zI l4, zI l5, zI l6] [] 137 h := by
  refine s_iinc (x := l6) dX0_clashes_34 rfl rfl (by decide) ?_
  exact s_goto (tgt := 6) dX0_clashes_37 (by decide) kk
theorem bX0_clashes_40 {fr M1 M2 b1 b2 : Nat} {Q : RS → Nat → AH → Prop} {h : AH} {l5 : Int} {x0 x1 x2 x3 x4 x6 : AV}   (hq : Q (.inl (some (zI l5))) 137 h) : Wp mX0_clashes (kR fr M1 M2) Q (b1, b2) 40 [x0, x1, x2, x3, x4, zI l5, x6] [] 137 h := by
  refine s_fgt (fgt_n _ (fgt_n _ (fgt_n _ (fgt_n _ (fgt_n _ (fgt_c (fgt_n _ fgt_0))))))) ?_
  refine s_iload (x := l5) dX0_clashes_40 rfl ?_
  exact s_ireturn dX0_clashes_42 ⟨.int, rfl, rfl⟩ hq (fun z => by cases z)
theorem dX0_rests_0 : decode mX0_rests.cd 0 = .ok (.iconst 0, 1) := by decide +kernel
theorem dX0_rests_1 : decode mX0_rests.cd 1 = .ok (.istore 4, 2) := by decide +kernel
theorem dX0_rests_3 : decode mX0_rests.cd 3 = .ok (.iload 4, 2) := by decide +kernel
theorem dX0_rests_5 : decode mX0_rests.cd 5 = .ok (.bipush 16, 2) := by decide +kernel
theorem dX0_rests_7 : decode mX0_rests.cd 7 = .ok (.if_icmp .gt 29, 3) := by decide +kernel
theorem dX0_rests_10 : decode mX0_rests.cd 10 = .ok (.aload_n 0, 1) := by decide +kernel
theorem dX0_rests_11 : decode mX0_rests.cd 11 = .ok (.aload_n 1, 1) := by decide +kernel
theorem dX0_rests_12 : decode mX0_rests.cd 12 = .ok (.aload_n 2, 1) := by decide +kernel
theorem dX0_rests_13 : decode mX0_rests.cd 13 = .ok (.aload_n 3, 1) := by decide +kernel
theorem dX0_rests_14 : decode mX0_rests.cd 14 = .ok (.aload_n 3, 1) := by decide +kernel
theorem dX0_rests_15 : decode mX0_rests.cd 15 = .ok (.getfield 23, 3) := by decide +kernel
theorem dX0_rests_18 : decode mX0_rests.cd 18 = .ok (.iload 4, 2) := by decide +kernel
theorem dX0_rests_20 : decode mX0_rests.cd 20 = .ok (.iadd, 1) := by decide +kernel
theorem dX0_rests_21 : decode mX0_rests.cd 21 = .ok (.invokevirtual 29, 3) := by decide +kernel
theorem dX0_rests_24 : decode mX0_rests.cd 24 = .ok (.ifCond .ne 6, 3) := by decide +kernel
theorem dX0_rests_27 : decode mX0_rests.cd 27 = .ok (.iload 4, 2) := by decide +kernel
theorem dX0_rests_29 : decode mX0_rests.cd 29 = .ok (.ireturn, 1) := by decide +kernel
theorem dX0_rests_30 : decode mX0_rests.cd 30 = .ok (.iinc 4 1, 3) := by decide +kernel
theorem dX0_rests_33 : decode mX0_rests.cd 33 = .ok (.goto (-30), 3) := by decide +kernel
theorem dX0_rests_36 : decode mX0_rests.cd 36 = .ok (.iconst (-1), 1) := by decide +kernel
theorem dX0_rests_37 : decode mX0_rests.cd 37 = .ok (.ireturn, 1) := by decide +kernel
theorem bX0_rests_0 {fr M1 M2 b1 b2 : Nat} {Q : RS → Nat → AH → Prop} {h : AH} {l1 l2 l3 : Int} {x4 : AV}   (kk : Wp mX0_rests (kR fr M1 M2) Q (b1, b2) 3 [zR 80, zR l1, zR l2, zR l3, zI 0] [] 137 h) : Wp mX0_rests (kR fr M1 M2) Q (b1, b2) 0 [zR 80, zR l1, zR l2, zR l3, x4] [] 137 h := by
  refine s_fgt (fgt_c (fgt_c (fgt_c (fgt_c (fgt_n _ fgt_0))))) ?_
  refine s_iconst dX0_rests_0 ?_
  refine s_istore dX0_rests_1 rfl (by decide) ?_
  exact kk
theorem bX0_rests_3 {fr M1 M2 b1 b2 : Nat} {Q : RS → Nat → AH → Prop} {h : AH} {l1 l2 l3 l4 : Int}  (r1 : -2147483648 ≤ l4 ∧ l4 < 2147483648 := by omega) (kt : 16 < l4 → Wp mX0_rests (kR fr M1 M2) Q (b1, b2) 36 [zR 80, zR l1, zR l2, zR l3, zI l4] [] 137 h) (kf : l4 ≤ 16 → Wp mX0_rests (kR fr M1 M2) Q (b1, b2) 10 [zR 80, zR l1, zR l2, zR l3, zI l4] [] 137 h) : Wp mX0_rests (kR fr M1 M2) Q (b1, b2) 3 [zR 80, zR l1, zR l2, zR l3, zI l4] [] 137 h := by
  refine s_iload (x := l4) dX0_rests_3 rfl ?_
  refine s_bipush dX0_rests_5 (by decide) ?_
  exact s_icmp_gt (tgt := 36) dX0_rests_7 (by decide) r1 ⟨by decide, by decide⟩ kt kf
theorem bX0_rests_10 {fr M1 M2 b1 b2 : Nat} {Q : RS → Nat → AH → Prop} {h : AH} {l1 l2 l3 l4 : Int} {R : Int → AH → Prop} (c1 : cel 137 l3 (8, 8) := by first | assumption | omega)  (hS : Sp mX0_clashes true (fr - 1) 0 0 [zR 80, zR l1, zR l2, zR l3, zI ((h l3 5) + l4)] 137 h (rI R)) (hf : 1 ≤ fr := by omega) (kk : ∀ (x : Int) (h' : AH), R x h' → Wp mX0_rests (kR fr M1 M2) Q (b1, b2) 24 [zR 80, zR l1, zR l2, zR l3, zI l4] [zI x] 137 h') : Wp mX0_rests (kR fr M1 M2) Q (b1, b2) 10 [zR 80, zR l1, zR l2, zR l3, zI l4] [] 137 h := by
  refine s_aload_n (x := 80) dX0_rests_10 rfl ?_
  refine s_aload_n (x := l1) dX0_rests_11 rfl ?_
  refine s_aload_n (x := l2) dX0_rests_12 rfl ?_
  refine s_aload_n (x := l3) dX0_rests_13 rfl ?_
  refine s_aload_n (x := l3) dX0_rests_14 rfl ?_
  refine s_get (c := l3) dX0_rests_15 lX0_23 c1 (by decide) ?_
  refine s_iload (x := l4) dX0_rests_18 rfl ?_
  refine s_iadd dX0_rests_20 ?_
  exact s_callV (as := [zR l1, zR l2, zR l3, zI ((h l3 5) + l4)]) (st := []) (o := 80) dX0_rests_21 kX0_29 rfl ⟨0, 1, TX0, e80, rfl, by decide⟩ rfl rfl (Nat.le_of_ble_eq_true rfl) hS (show fr - 1 + 1 ≤ fr by omega) (Nat.zero_le _) (Nat.zero_le _) (fun v n' h' hP _ => by obtain ⟨x, e, rfl, hR⟩ := hP; cases e; exact kk x h' hR) (fun E n' h' _ z => (rI_nt _ _ _ z).elim)
theorem bX0_rests_24 {fr M1 M2 b1 b2 : Nat} {Q : RS → Nat → AH → Prop} {h : AH} {l1 l2 l3 l4 s0 : Int}  (r1 : -2147483648 ≤ s0 ∧ s0 < 2147483648 := by omega) (kt : ¬ s0 = 0 → Wp mX0_rests (kR fr M1 M2) Q (b1, b2) 30 [zR 80, zR l1, zR l2, zR l3, zI l4] [] 137 h) (kf : s0 = 0 → Wp mX0_rests (kR fr M1 M2) Q (b1, b2) 27 [zR 80, zR l1, zR l2, zR l3, zI l4] [] 137 h) : Wp mX0_rests (kR fr M1 M2) Q (b1, b2) 24 [zR 80, zR l1, zR l2, zR l3, zI l4] [zI s0] 137 h := by
  exact s_if_ne (tgt := 30) dX0_rests_24 (by decide) r1 kt kf
theorem bX0_rests_27 {fr M1 M2 b1 b2 : Nat} {Q : RS → Nat → AH → Prop} {h : AH} {l4 : Int} {x0 x1 x2 x3 : AV}   (hq : Q (.inl (some (zI l4))) 137 h) : Wp mX0_rests (kR fr M1 M2) Q (b1, b2) 27 [x0, x1, x2, x3, zI l4] [] 137 h := by
  refine s_fgt (fgt_n _ (fgt_n _ (fgt_n _ (fgt_n _ (fgt_c fgt_0))))) ?_
  refine s_iload (x := l4) dX0_rests_27 rfl ?_
  exact s_ireturn dX0_rests_29 ⟨.int, rfl, rfl⟩ hq (fun z => by cases z)
theorem bX0_rests_30 {fr M1 M2 b1 b2 : Nat} {Q : RS → Nat → AH → Prop} {h : AH} {l1 l2 l3 l4 : Int}   (kk : Wp mX0_rests (kR fr M1 M2) Q (b1, b2) 3 [zR 80, zR l1, zR l2, zR l3, zI (l4 + 1)] [] 137 h) : Wp mX0_rests (kR fr M1 M2) Q (b1, b2) 30 [zR 80, zR l1, zR l2, zR l3, zI l4] [] 137 h := by
  refine s_iinc (x := l4) dX0_rests_30 rfl rfl (by decide) ?_
  exact s_goto (tgt := 3) dX0_rests_33 (by decide) kk
theorem bX0_rests_36 {fr M1 M2 b1 b2 : Nat} {Q : RS → Nat → AH → Prop} {h : AH} {x0 x1 x2 x3 x4 : AV}   (hq : Q (.inl (some (zI (-1)))) 137 h) : Wp mX0_rests (kR fr M1 M2) Q (b1, b2) 36 [x0, x1, x2, x3, x4] [] 137 h := by
  refine s_fgt (fgt_n _ (fgt_n _ (fgt_n _ (fgt_n _ (fgt_n _ fgt_0))))) ?_
  refine s_iconst dX0_rests_36 ?_
  exact s_ireturn dX0_rests_37 ⟨.int, rfl, rfl⟩ hq (fun z => by cases z)
theorem dX0_listen_0 : decode mX0_listen.cd 0 = .ok (.aload_n 0, 1) := by decide +kernel
theorem dX0_listen_1 : decode mX0_listen.cd 1 = .ok (.getfield 9, 3) := by decide +kernel
theorem dX0_listen_4 : decode mX0_listen.cd 4 = .ok (.iconst 0, 1) := by decide +kernel
theorem dX0_listen_5 : decode mX0_listen.cd 5 = .ok (.invokestatic 33, 3) := by decide +kernel
theorem dX0_listen_8 : decode mX0_listen.cd 8 = .ok (.iconst 0, 1) := by decide +kernel
theorem dX0_listen_9 : decode mX0_listen.cd 9 = .ok (.istore 6, 2) := by decide +kernel
theorem dX0_listen_11 : decode mX0_listen.cd 11 = .ok (.iload 6, 2) := by decide +kernel
theorem dX0_listen_13 : decode mX0_listen.cd 13 = .ok (.aload_n 2, 1) := by decide +kernel
theorem dX0_listen_14 : decode mX0_listen.cd 14 = .ok (.getfield 39, 3) := by decide +kernel
theorem dX0_listen_17 : decode mX0_listen.cd 17 = .ok (.if_icmp .ge 82, 3) := by decide +kernel
theorem dX0_listen_20 : decode mX0_listen.cd 20 = .ok (.iload 4, 2) := by decide +kernel
theorem dX0_listen_22 : decode mX0_listen.cd 22 = .ok (.ifCond .le 77, 3) := by decide +kernel
theorem dX0_listen_25 : decode mX0_listen.cd 25 = .ok (.iload 5, 2) := by decide +kernel
theorem dX0_listen_27 : decode mX0_listen.cd 27 = .ok (.aload_n 2, 1) := by decide +kernel
theorem dX0_listen_28 : decode mX0_listen.cd 28 = .ok (.getfield 44, 3) := by decide +kernel
theorem dX0_listen_31 : decode mX0_listen.cd 31 = .ok (.iload 6, 2) := by decide +kernel
theorem dX0_listen_33 : decode mX0_listen.cd 33 = .ok (.iaload, 1) := by decide +kernel
theorem dX0_listen_34 : decode mX0_listen.cd 34 = .ok (.isub, 1) := by decide +kernel
theorem dX0_listen_35 : decode mX0_listen.cd 35 = .ok (.iload 4, 2) := by decide +kernel
theorem dX0_listen_37 : decode mX0_listen.cd 37 = .ok (.invokestatic 47, 3) := by decide +kernel
theorem dX0_listen_40 : decode mX0_listen.cd 40 = .ok (.istore 7, 2) := by decide +kernel
theorem dX0_listen_42 : decode mX0_listen.cd 42 = .ok (.iload 7, 2) := by decide +kernel
theorem dX0_listen_44 : decode mX0_listen.cd 44 = .ok (.aload_n 3, 1) := by decide +kernel
theorem dX0_listen_45 : decode mX0_listen.cd 45 = .ok (.getfield 23, 3) := by decide +kernel
theorem dX0_listen_48 : decode mX0_listen.cd 48 = .ok (.if_icmp .ge 13, 3) := by decide +kernel
theorem dX0_listen_51 : decode mX0_listen.cd 51 = .ok (.aload_n 3, 1) := by decide +kernel
theorem dX0_listen_52 : decode mX0_listen.cd 52 = .ok (.getfield 53, 3) := by decide +kernel
theorem dX0_listen_55 : decode mX0_listen.cd 55 = .ok (.iload 7, 2) := by decide +kernel
theorem dX0_listen_57 : decode mX0_listen.cd 57 = .ok (.iaload, 1) := by decide +kernel
theorem dX0_listen_58 : decode mX0_listen.cd 58 = .ok (.goto 4, 3) := by decide +kernel
theorem dX0_listen_61 : decode mX0_listen.cd 61 = .ok (.iconst (-1), 1) := by decide +kernel
theorem dX0_listen_62 : decode mX0_listen.cd 62 = .ok (.istore 8, 2) := by decide +kernel
theorem dX0_listen_64 : decode mX0_listen.cd 64 = .ok (.iload 8, 2) := by decide +kernel
theorem dX0_listen_66 : decode mX0_listen.cd 66 = .ok (.iconst (-1), 1) := by decide +kernel
theorem dX0_listen_67 : decode mX0_listen.cd 67 = .ok (.if_icmp .eq 26, 3) := by decide +kernel
theorem dX0_listen_70 : decode mX0_listen.cd 70 = .ok (.aload_n 0, 1) := by decide +kernel
theorem dX0_listen_71 : decode mX0_listen.cd 71 = .ok (.getfield 9, 3) := by decide +kernel
theorem dX0_listen_74 : decode mX0_listen.cd 74 = .ok (.iload 8, 2) := by decide +kernel
theorem dX0_listen_76 : decode mX0_listen.cd 76 = .ok (.dup2, 1) := by decide +kernel
theorem dX0_listen_77 : decode mX0_listen.cd 77 = .ok (.iaload, 1) := by decide +kernel
theorem dX0_listen_78 : decode mX0_listen.cd 78 = .ok (.aload_n 2, 1) := by decide +kernel
theorem dX0_listen_79 : decode mX0_listen.cd 79 = .ok (.getfield 56, 3) := by decide +kernel
theorem dX0_listen_82 : decode mX0_listen.cd 82 = .ok (.iload 6, 2) := by decide +kernel
theorem dX0_listen_84 : decode mX0_listen.cd 84 = .ok (.bipush 8, 2) := by decide +kernel
theorem dX0_listen_86 : decode mX0_listen.cd 86 = .ok (.imul, 1) := by decide +kernel
theorem dX0_listen_87 : decode mX0_listen.cd 87 = .ok (.iload 8, 2) := by decide +kernel
theorem dX0_listen_89 : decode mX0_listen.cd 89 = .ok (.iadd, 1) := by decide +kernel
theorem dX0_listen_90 : decode mX0_listen.cd 90 = .ok (.iaload, 1) := by decide +kernel
theorem dX0_listen_91 : decode mX0_listen.cd 91 = .ok (.iadd, 1) := by decide +kernel
theorem dX0_listen_92 : decode mX0_listen.cd 92 = .ok (.iastore, 1) := by decide +kernel
theorem dX0_listen_93 : decode mX0_listen.cd 93 = .ok (.iinc 6 1, 3) := by decide +kernel
theorem dX0_listen_96 : decode mX0_listen.cd 96 = .ok (.goto (-85), 3) := by decide +kernel
theorem dX0_listen_99 : decode mX0_listen.cd 99 = .ok (.iconst 0, 1) := by decide +kernel
theorem dX0_listen_100 : decode mX0_listen.cd 100 = .ok (.istore 6, 2) := by decide +kernel
theorem dX0_listen_102 : decode mX0_listen.cd 102 = .ok (.iconst 0, 1) := by decide +kernel
theorem dX0_listen_103 : decode mX0_listen.cd 103 = .ok (.istore 7, 2) := by decide +kernel
theorem dX0_listen_105 : decode mX0_listen.cd 105 = .ok (.iload 7, 2) := by decide +kernel
theorem dX0_listen_107 : decode mX0_listen.cd 107 = .ok (.aload_n 1, 1) := by decide +kernel
theorem dX0_listen_108 : decode mX0_listen.cd 108 = .ok (.getfield 59, 3) := by decide +kernel
theorem dX0_listen_111 : decode mX0_listen.cd 111 = .ok (.if_icmp .ge 32, 3) := by decide +kernel
theorem dX0_listen_114 : decode mX0_listen.cd 114 = .ok (.aload_n 0, 1) := by decide +kernel
theorem dX0_listen_115 : decode mX0_listen.cd 115 = .ok (.getfield 9, 3) := by decide +kernel
theorem dX0_listen_118 : decode mX0_listen.cd 118 = .ok (.iload 7, 2) := by decide +kernel
theorem dX0_listen_120 : decode mX0_listen.cd 120 = .ok (.iaload, 1) := by decide +kernel
theorem dX0_listen_121 : decode mX0_listen.cd 121 = .ok (.aload_n 1, 1) := by decide +kernel
theorem dX0_listen_122 : decode mX0_listen.cd 122 = .ok (.getfield 64, 3) := by decide +kernel
theorem dX0_listen_125 : decode mX0_listen.cd 125 = .ok (.if_icmp .lt 12, 3) := by decide +kernel
theorem dX0_listen_128 : decode mX0_listen.cd 128 = .ok (.iload 6, 2) := by decide +kernel
theorem dX0_listen_130 : decode mX0_listen.cd 130 = .ok (.iconst 1, 1) := by decide +kernel
theorem dX0_listen_131 : decode mX0_listen.cd 131 = .ok (.iload 7, 2) := by decide +kernel
theorem dX0_listen_133 : decode mX0_listen.cd 133 = .ok (.ishl, 1) := by decide +kernel
theorem dX0_listen_134 : decode mX0_listen.cd 134 = .ok (.ior, 1) := by decide +kernel
theorem dX0_listen_135 : decode mX0_listen.cd 135 = .ok (.istore 6, 2) := by decide +kernel
theorem dX0_listen_137 : decode mX0_listen.cd 137 = .ok (.iinc 7 1, 3) := by decide +kernel
theorem dX0_listen_140 : decode mX0_listen.cd 140 = .ok (.goto (-35), 3) := by decide +kernel
theorem dX0_listen_143 : decode mX0_listen.cd 143 = .ok (.iload 6, 2) := by decide +kernel
theorem dX0_listen_145 : decode mX0_listen.cd 145 = .ok (.ireturn, 1) := by decide +kernel
theorem bX0_listen_0 {fr M1 M2 b1 b2 : Nat} {Q : RS → Nat → AH → Prop} {h : AH} {l1 l2 l3 l4 l5 : Int} {x6 x7 x8 : AV} {R : AH → Prop}   (hS : Sp mJ7_fill_53178 true (fr - 1) 0 0 [zR 81, zI 0] 137 h (rV R)) (hf : 1 ≤ fr := by omega) (kk : ∀ h' : AH, R h' → Wp mX0_listen (kR fr M1 M2) Q (b1, b2) 8 [zR 80, zR l1, zR l2, zR l3, zI l4, zI l5, none, none, none] [] 137 h') : Wp mX0_listen (kR fr M1 M2) Q (b1, b2) 0 [zR 80, zR l1, zR l2, zR l3, zI l4, zI l5, x6, x7, x8] [] 137 h := by
  refine s_fgt (fgt_c (fgt_c (fgt_c (fgt_c (fgt_c (fgt_c (fgt_n _ (fgt_n _ (fgt_n _ fgt_0))))))))) ?_
  refine s_aload_n (x := 80) dX0_listen_0 rfl ?_
  refine s_getFd (c := 80) (d := 81) dX0_listen_1 lX0_9 e80 (Or.inl rfl) (by decide) (by decide) ?_
  refine s_iconst dX0_listen_4 ?_
  exact s_callS (as := [zR 81, zI 0]) (st := []) dX0_listen_5 kX0_33 rfl rfl (Nat.le_of_ble_eq_true rfl) hS (show fr - 1 + 1 ≤ fr by omega) (Nat.zero_le _) (Nat.zero_le _) (fun v n' h' hP _ => by obtain ⟨e, rfl, hR⟩ := hP; cases e; exact kk h' hR) (fun E n' h' _ z => (rV_nt _ _ _ z).elim)
theorem bX0_listen_8 {fr M1 M2 b1 b2 : Nat} {Q : RS → Nat → AH → Prop} {h : AH} {l1 l2 l3 l4 l5 : Int} {x6 x7 x8 : AV}   (kk : Wp mX0_listen (kR fr M1 M2) Q (b1, b2) 11 [zR 80, zR l1, zR l2, zR l3, zI l4, zI l5, zI 0, none, none] [] 137 h) : Wp mX0_listen (kR fr M1 M2) Q (b1, b2) 8 [zR 80, zR l1, zR l2, zR l3, zI l4, zI l5, x6, x7, x8] [] 137 h := by
  refine s_fgt (fgt_c (fgt_c (fgt_c (fgt_c (fgt_c (fgt_c (fgt_n _ (fgt_n _ (fgt_n _ fgt_0))))))))) ?_
  refine s_iconst dX0_listen_8 ?_
  refine s_istore dX0_listen_9 rfl (by decide) ?_
  exact kk
theorem bX0_listen_11 {fr M1 M2 b1 b2 : Nat} {Q : RS → Nat → AH → Prop} {h : AH} {l1 l2 l3 l4 l5 l6 : Int} {x7 x8 : AV} (c1 : cel 137 l2 (7, 9) := by first | assumption | omega) (r1 : -2147483648 ≤ l6 ∧ l6 < 2147483648 := by omega) (r2 : -2147483648 ≤ h l2 2 ∧ h l2 2 < 2147483648 := by omega) (kt : h l2 2 ≤ l6 → Wp mX0_listen (kR fr M1 M2) Q (b1, b2) 99 [zR 80, zR l1, zR l2, zR l3, zI l4, zI l5, zI l6, none, none] [] 137 h) (kf : l6 < h l2 2 → Wp mX0_listen (kR fr M1 M2) Q (b1, b2) 20 [zR 80, zR l1, zR l2, zR l3, zI l4, zI l5, zI l6, none, none] [] 137 h) : Wp mX0_listen (kR fr M1 M2) Q (b1, b2) 11 [zR 80, zR l1, zR l2, zR l3, zI l4, zI l5, zI l6, x7, x8] [] 137 h := by
  refine s_fgt (fgt_c (fgt_c (fgt_c (fgt_c (fgt_c (fgt_c (fgt_c (fgt_n _ (fgt_n _ fgt_0))))))))) ?_
  refine s_iload (x := l6) dX0_listen_11 rfl ?_
  refine s_aload_n (x := l2) dX0_listen_13 rfl ?_
  refine s_get (c := l2) dX0_listen_14 lX0_39 c1 (by decide) ?_
  exact s_icmp_ge (tgt := 99) dX0_listen_17 (by decide) r1 r2 kt kf
theorem bX0_listen_20 {fr M1 M2 b1 b2 : Nat} {Q : RS → Nat → AH → Prop} {h : AH} {l1 l2 l3 l4 l5 l6 : Int} {x7 x8 : AV}  (r1 : -2147483648 ≤ l4 ∧ l4 < 2147483648 := by omega) (kt : l4 ≤ 0 → Wp mX0_listen (kR fr M1 M2) Q (b1, b2) 99 [zR 80, zR l1, zR l2, zR l3, zI l4, zI l5, zI l6, none, none] [] 137 h) (kf : 0 < l4 → Wp mX0_listen (kR fr M1 M2) Q (b1, b2) 25 [zR 80, zR l1, zR l2, zR l3, zI l4, zI l5, zI l6, none, none] [] 137 h) : Wp mX0_listen (kR fr M1 M2) Q (b1, b2) 20 [zR 80, zR l1, zR l2, zR l3, zI l4, zI l5, zI l6, x7, x8] [] 137 h := by
  refine s_fgt (fgt_c (fgt_c (fgt_c (fgt_c (fgt_c (fgt_c (fgt_c (fgt_n _ (fgt_n _ fgt_0))))))))) ?_
  refine s_iload (x := l4) dX0_listen_20 rfl ?_
  exact s_if_le (tgt := 99) dX0_listen_22 (by decide) r1 kt kf
theorem bX0_listen_25 {fr M1 M2 b1 b2 : Nat} {Q : RS → Nat → AH → Prop} {h : AH} {l1 l2 l3 l4 l5 l6 : Int} {x7 x8 : AV} {R : Int → AH → Prop} (c1 : cel 137 l2 (7, 9) := by first | assumption | omega) (r1 : 0 ≤ l6 ∧ l6 < 19 := by omega) (hS : Sp mJ9_floorMod_7cf53 true (fr - 1) 0 0 [zI (l5 - (h (l2 + 1) l6)), zI l4] 137 h (rI R)) (hf : 1 ≤ fr := by omega) (kk : ∀ (x : Int) (h' : AH), R x h' → Wp mX0_listen (kR fr M1 M2) Q (b1, b2) 40 [zR 80, zR l1, zR l2, zR l3, zI l4, zI l5, zI l6, none, none] [zI x] 137 h') : Wp mX0_listen (kR fr M1 M2) Q (b1, b2) 25 [zR 80, zR l1, zR l2, zR l3, zI l4, zI l5, zI l6, x7, x8] [] 137 h := by
  refine s_fgt (fgt_c (fgt_c (fgt_c (fgt_c (fgt_c (fgt_c (fgt_c (fgt_n _ (fgt_n _ fgt_0))))))))) ?_
  refine s_iload (x := l5) dX0_listen_25 rfl ?_
  refine s_aload_n (x := l2) dX0_listen_27 rfl ?_
  refine s_getFd (c := l2) (d := l2 + 1) dX0_listen_28 lX0_44 c1 (Or.inl rfl) rfl (ne0 (fin_X7_0 c1)) ?_
  refine s_iload (x := l6) dX0_listen_31 rfl ?_
  refine s_iald (c := l2 + 1) (i := l6) dX0_listen_33 (fin_X7_0 c1) r1.1 r1.2 ?_
  refine s_isub dX0_listen_34 ?_
  refine s_iload (x := l4) dX0_listen_35 rfl ?_
  exact s_callS (as := [zI (l5 - (h (l2 + 1) l6)), zI l4]) (st := []) dX0_listen_37 kX0_47 rfl rfl (Nat.le_of_ble_eq_true rfl) hS (show fr - 1 + 1 ≤ fr by omega) (Nat.zero_le _) (Nat.zero_le _) (fun v n' h' hP _ => by obtain ⟨x, e, rfl, hR⟩ := hP; cases e; exact kk x h' hR) (fun E n' h' _ z => (rI_nt _ _ _ z).elim)
theorem bX0_listen_40 {fr M1 M2 b1 b2 : Nat} {Q : RS → Nat → AH → Prop} {h : AH} {l1 l2 l3 l4 l5 l6 s0 : Int} {x7 x8 : AV} (c1 : cel 137 l3 (8, 8) := by first | assumption | omega) (r1 : -2147483648 ≤ s0 ∧ s0 < 2147483648 := by omega) (r2 : -2147483648 ≤ h l3 5 ∧ h l3 5 < 2147483648 := by omega) (kt : h l3 5 ≤ s0 → Wp mX0_listen (kR fr M1 M2) Q (b1, b2) 61 [zR 80, zR l1, zR l2, zR l3, zI l4, zI l5, zI l6, zI s0, none] [] 137 h) (kf : s0 < h l3 5 → Wp mX0_listen (kR fr M1 M2) Q (b1, b2) 51 [zR 80, zR l1, zR l2, zR l3, zI l4, zI l5, zI l6, zI s0, none] [] 137 h) : Wp mX0_listen (kR fr M1 M2) Q (b1, b2) 40 [zR 80, zR l1, zR l2, zR l3, zI l4, zI l5, zI l6, x7, x8] [zI s0] 137 h := by
  refine s_fgt (fgt_c (fgt_c (fgt_c (fgt_c (fgt_c (fgt_c (fgt_c (fgt_n _ (fgt_n _ fgt_0))))))))) ?_
  refine s_istore dX0_listen_40 rfl (by decide) ?_
  refine s_iload (x := s0) dX0_listen_42 rfl ?_
  refine s_aload_n (x := l3) dX0_listen_44 rfl ?_
  refine s_get (c := l3) dX0_listen_45 lX0_23 c1 (by decide) ?_
  exact s_icmp_ge (tgt := 61) dX0_listen_48 (by decide) r1 r2 kt kf
theorem bX0_listen_51 {fr M1 M2 b1 b2 : Nat} {Q : RS → Nat → AH → Prop} {h : AH} {l1 l2 l3 l4 l5 l6 l7 : Int} {x8 : AV} (c1 : cel 137 l3 (8, 8) := by first | assumption | omega) (r1 : 0 ≤ l7 ∧ l7 < 16 := by omega) (kk : Wp mX0_listen (kR fr M1 M2) Q (b1, b2) 62 [zR 80, zR l1, zR l2, zR l3, zI l4, zI l5, zI l6, zI l7, none] [zI (h (l3 + 3) l7)] 137 h) : Wp mX0_listen (kR fr M1 M2) Q (b1, b2) 51 [zR 80, zR l1, zR l2, zR l3, zI l4, zI l5, zI l6, zI l7, x8] [] 137 h := by
  refine s_fgt (fgt_c (fgt_c (fgt_c (fgt_c (fgt_c (fgt_c (fgt_c (fgt_c (fgt_n _ fgt_0))))))))) ?_
  refine s_aload_n (x := l3) dX0_listen_51 rfl ?_
  refine s_getFd (c := l3) (d := l3 + 3) dX0_listen_52 lX0_53 c1 (Or.inl rfl) rfl (ne0 (fin_X8_4 c1)) ?_
  refine s_iload (x := l7) dX0_listen_55 rfl ?_
  refine s_iald (c := l3 + 3) (i := l7) dX0_listen_57 (fin_X8_4 c1) r1.1 r1.2 ?_
  exact s_goto (tgt := 62) dX0_listen_58 (by decide) kk
theorem bX0_listen_61 {fr M1 M2 b1 b2 : Nat} {Q : RS → Nat → AH → Prop} {h : AH} {l1 l2 l3 l4 l5 l6 : Int} {x7 x8 : AV}   (kk : Wp mX0_listen (kR fr M1 M2) Q (b1, b2) 62 [zR 80, zR l1, zR l2, zR l3, zI l4, zI l5, zI l6, none, none] [zI (-1)] 137 h) : Wp mX0_listen (kR fr M1 M2) Q (b1, b2) 61 [zR 80, zR l1, zR l2, zR l3, zI l4, zI l5, zI l6, x7, x8] [] 137 h := by
  refine s_fgt (fgt_c (fgt_c (fgt_c (fgt_c (fgt_c (fgt_c (fgt_c (fgt_n _ (fgt_n _ fgt_0))))))))) ?_
  refine s_iconst dX0_listen_61 ?_
  exact kk
theorem bX0_listen_62 {fr M1 M2 b1 b2 : Nat} {Q : RS → Nat → AH → Prop} {h : AH} {l1 l2 l3 l4 l5 l6 s0 : Int} {x7 x8 : AV}  (r1 : -2147483648 ≤ s0 ∧ s0 < 2147483648 := by omega) (kt : s0 = (-1) → Wp mX0_listen (kR fr M1 M2) Q (b1, b2) 93 [zR 80, zR l1, zR l2, zR l3, zI l4, zI l5, zI l6, none, zI s0] [] 137 h) (kf : ¬ s0 = (-1) → Wp mX0_listen (kR fr M1 M2) Q (b1, b2) 70 [zR 80, zR l1, zR l2, zR l3, zI l4, zI l5, zI l6, none, zI s0] [] 137 h) : Wp mX0_listen (kR fr M1 M2) Q (b1, b2) 62 [zR 80, zR l1, zR l2, zR l3, zI l4, zI l5, zI l6, x7, x8] [zI s0] 137 h := by
  refine s_fgt (fgt_c (fgt_c (fgt_c (fgt_c (fgt_c (fgt_c (fgt_c (fgt_n _ (fgt_n _ fgt_0))))))))) ?_
  refine s_istore dX0_listen_62 rfl (by decide) ?_
  refine s_iload (x := s0) dX0_listen_64 rfl ?_
  refine s_iconst dX0_listen_66 ?_
  exact s_icmp_eq (tgt := 93) dX0_listen_67 (by decide) r1 ⟨by decide, by decide⟩ kt kf
theorem bX0_listen_70 {fr M1 M2 b1 b2 : Nat} {Q : RS → Nat → AH → Prop} {h : AH} {l1 l2 l3 l4 l5 l6 l8 : Int} {x7 : AV} (c1 : cel 137 l2 (7, 9) := by first | assumption | omega) (r1 : 0 ≤ l8 ∧ l8 < 8 := by omega) (r2 : 0 ≤ (l6 * 8) + l8 ∧ (l6 * 8) + l8 < 152 := by omega) (kk : Wp mX0_listen (kR fr M1 M2) Q (b1, b2) 93 [zR 80, zR l1, zR l2, zR l3, zI l4, zI l5, zI l6, none, zI l8] [] 137 (up h 81 l8 ((h 81 l8) + (h (l2 + 2) ((l6 * 8) + l8))))) : Wp mX0_listen (kR fr M1 M2) Q (b1, b2) 70 [zR 80, zR l1, zR l2, zR l3, zI l4, zI l5, zI l6, x7, zI l8] [] 137 h := by
  refine s_fgt (fgt_c (fgt_c (fgt_c (fgt_c (fgt_c (fgt_c (fgt_c (fgt_n _ (fgt_c fgt_0))))))))) ?_
  refine s_aload_n (x := 80) dX0_listen_70 rfl ?_
  refine s_getFd (c := 80) (d := 81) dX0_listen_71 lX0_9 e80 (Or.inl rfl) (by decide) (by decide) ?_
  refine s_iload (x := l8) dX0_listen_74 rfl ?_
  refine s_dup2 dX0_listen_76 rfl rfl ?_
  refine s_iald (c := 81) (i := l8) dX0_listen_77 e81 r1.1 r1.2 ?_
  refine s_aload_n (x := l2) dX0_listen_78 rfl ?_
  refine s_getFd (c := l2) (d := l2 + 2) dX0_listen_79 lX0_56 c1 (Or.inl rfl) rfl (ne0 (fin_X7_1 c1)) ?_
  refine s_iload (x := l6) dX0_listen_82 rfl ?_
  refine s_bipush dX0_listen_84 (by decide) ?_
  refine s_imul dX0_listen_86 ?_
  refine s_iload (x := l8) dX0_listen_87 rfl ?_
  refine s_iadd dX0_listen_89 ?_
  refine s_iald (c := l2 + 2) (i := (l6 * 8) + l8) dX0_listen_90 (fin_X7_1 c1) r2.1 r2.2 ?_
  refine s_iadd dX0_listen_91 ?_
  refine s_iast (c := 81) (i := l8) dX0_listen_92 e81 r1.1 r1.2 ?_
  exact kk
theorem bX0_listen_93 {fr M1 M2 b1 b2 : Nat} {Q : RS → Nat → AH → Prop} {h : AH} {l1 l2 l3 l4 l5 l6 : Int} {x7 x8 : AV}   (kk : Wp mX0_listen (kR fr M1 M2) Q (b1, b2) 11 [zR 80, zR l1, zR l2, zR l3, zI l4, zI l5, zI (l6 + 1), none, none] [] 137 h) : Wp mX0_listen (kR fr M1 M2) Q (b1, b2) 93 [zR 80, zR l1, zR l2, zR l3, zI l4, zI l5, zI l6, x7, x8] [] 137 h := by
  refine s_fgt (fgt_c (fgt_c (fgt_c (fgt_c (fgt_c (fgt_c (fgt_c (fgt_n _ (fgt_n _ fgt_0))))))))) ?_
  refine s_iinc (x := l6) dX0_listen_93 rfl rfl (by decide) ?_
  exact s_goto (tgt := 11) dX0_listen_96 (by decide) kk
theorem bX0_listen_99 {fr M1 M2 b1 b2 : Nat} {Q : RS → Nat → AH → Prop} {h : AH} {l1 : Int} {x2 x3 x4 x5 x6 x7 x8 : AV}   (kk : Wp mX0_listen (kR fr M1 M2) Q (b1, b2) 105 [zR 80, zR l1, none, none, none, none, zI 0, zI 0, none] [] 137 h) : Wp mX0_listen (kR fr M1 M2) Q (b1, b2) 99 [zR 80, zR l1, x2, x3, x4, x5, x6, x7, x8] [] 137 h := by
  refine s_fgt (fgt_c (fgt_c (fgt_n _ (fgt_n _ (fgt_n _ (fgt_n _ (fgt_n _ (fgt_n _ (fgt_n _ fgt_0))))))))) ?_
  refine s_iconst dX0_listen_99 ?_
  refine s_istore dX0_listen_100 rfl (by decide) ?_
  refine s_iconst dX0_listen_102 ?_
  refine s_istore dX0_listen_103 rfl (by decide) ?_
  exact kk
theorem bX0_listen_105 {fr M1 M2 b1 b2 : Nat} {Q : RS → Nat → AH → Prop} {h : AH} {l1 l6 l7 : Int} {x2 x3 x4 x5 x8 : AV} (c1 : cel 137 l1 (2, 21) := by first | assumption | omega) (r1 : -2147483648 ≤ l7 ∧ l7 < 2147483648 := by omega) (r2 : -2147483648 ≤ h l1 0 ∧ h l1 0 < 2147483648 := by omega) (kt : h l1 0 ≤ l7 → Wp mX0_listen (kR fr M1 M2) Q (b1, b2) 143 [zR 80, zR l1, none, none, none, none, zI l6, zI l7, none] [] 137 h) (kf : l7 < h l1 0 → Wp mX0_listen (kR fr M1 M2) Q (b1, b2) 114 [zR 80, zR l1, none, none, none, none, zI l6, zI l7, none] [] 137 h) : Wp mX0_listen (kR fr M1 M2) Q (b1, b2) 105 [zR 80, zR l1, x2, x3, x4, x5, zI l6, zI l7, x8] [] 137 h := by
  refine s_fgt (fgt_c (fgt_c (fgt_n _ (fgt_n _ (fgt_n _ (fgt_n _ (fgt_c (fgt_c (fgt_n _ fgt_0))))))))) ?_
  refine s_iload (x := l7) dX0_listen_105 rfl ?_
  refine s_aload_n (x := l1) dX0_listen_107 rfl ?_
  refine s_get (c := l1) dX0_listen_108 lX0_59 c1 (by decide) ?_
  exact s_icmp_ge (tgt := 143) dX0_listen_111 (by decide) r1 r2 kt kf
theorem bX0_listen_114 {fr M1 M2 b1 b2 : Nat} {Q : RS → Nat → AH → Prop} {h : AH} {l1 l6 l7 : Int} {x2 x3 x4 x5 x8 : AV} (c1 : cel 137 l1 (2, 21) := by first | assumption | omega) (r1 : 0 ≤ l7 ∧ l7 < 8 := by omega) (r2 : -2147483648 ≤ h 81 l7 ∧ h 81 l7 < 2147483648 := by omega) (r3 : -2147483648 ≤ h l1 4 ∧ h l1 4 < 2147483648 := by omega) (kt : h 81 l7 < h l1 4 → Wp mX0_listen (kR fr M1 M2) Q (b1, b2) 137 [zR 80, zR l1, none, none, none, none, zI l6, zI l7, none] [] 137 h) (kf : h l1 4 ≤ h 81 l7 → Wp mX0_listen (kR fr M1 M2) Q (b1, b2) 128 [zR 80, zR l1, none, none, none, none, zI l6, zI l7, none] [] 137 h) : Wp mX0_listen (kR fr M1 M2) Q (b1, b2) 114 [zR 80, zR l1, x2, x3, x4, x5, zI l6, zI l7, x8] [] 137 h := by
  refine s_fgt (fgt_c (fgt_c (fgt_n _ (fgt_n _ (fgt_n _ (fgt_n _ (fgt_c (fgt_c (fgt_n _ fgt_0))))))))) ?_
  refine s_aload_n (x := 80) dX0_listen_114 rfl ?_
  refine s_getFd (c := 80) (d := 81) dX0_listen_115 lX0_9 e80 (Or.inl rfl) (by decide) (by decide) ?_
  refine s_iload (x := l7) dX0_listen_118 rfl ?_
  refine s_iald (c := 81) (i := l7) dX0_listen_120 e81 r1.1 r1.2 ?_
  refine s_aload_n (x := l1) dX0_listen_121 rfl ?_
  refine s_get (c := l1) dX0_listen_122 lX0_64 c1 (by decide) ?_
  exact s_icmp_lt (tgt := 137) dX0_listen_125 (by decide) r2 r3 kt kf
theorem bX0_listen_128 {fr M1 M2 b1 b2 : Nat} {Q : RS → Nat → AH → Prop} {h : AH} {l1 l6 l7 : Int} {x2 x3 x4 x5 x8 : AV}  (r1 : 0 ≤ l7 ∧ l7 < 32 := by omega) (kk : Wp mX0_listen (kR fr M1 M2) Q (b1, b2) 137 [zR 80, zR l1, none, none, none, none, zI (bOr l6 (1 * 2 ^ l7.toNat)), zI l7, none] [] 137 h) : Wp mX0_listen (kR fr M1 M2) Q (b1, b2) 128 [zR 80, zR l1, x2, x3, x4, x5, zI l6, zI l7, x8] [] 137 h := by
  refine s_fgt (fgt_c (fgt_c (fgt_n _ (fgt_n _ (fgt_n _ (fgt_n _ (fgt_c (fgt_c (fgt_n _ fgt_0))))))))) ?_
  refine s_iload (x := l6) dX0_listen_128 rfl ?_
  refine s_iconst dX0_listen_130 ?_
  refine s_iload (x := l7) dX0_listen_131 rfl ?_
  refine s_ishlN dX0_listen_133 r1.1 r1.2 ?_
  refine s_ior dX0_listen_134 ?_
  refine s_istore dX0_listen_135 rfl (by decide) ?_
  exact kk
theorem bX0_listen_137 {fr M1 M2 b1 b2 : Nat} {Q : RS → Nat → AH → Prop} {h : AH} {l1 l6 l7 : Int} {x2 x3 x4 x5 x8 : AV}   (kk : Wp mX0_listen (kR fr M1 M2) Q (b1, b2) 105 [zR 80, zR l1, none, none, none, none, zI l6, zI (l7 + 1), none] [] 137 h) : Wp mX0_listen (kR fr M1 M2) Q (b1, b2) 137 [zR 80, zR l1, x2, x3, x4, x5, zI l6, zI l7, x8] [] 137 h := by
  refine s_fgt (fgt_c (fgt_c (fgt_n _ (fgt_n _ (fgt_n _ (fgt_n _ (fgt_c (fgt_c (fgt_n _ fgt_0))))))))) ?_
  refine s_iinc (x := l7) dX0_listen_137 rfl rfl (by decide) ?_
  exact s_goto (tgt := 105) dX0_listen_140 (by decide) kk
theorem bX0_listen_143 {fr M1 M2 b1 b2 : Nat} {Q : RS → Nat → AH → Prop} {h : AH} {l6 : Int} {x0 x1 x2 x3 x4 x5 x7 x8 : AV}   (hq : Q (.inl (some (zI l6))) 137 h) : Wp mX0_listen (kR fr M1 M2) Q (b1, b2) 143 [x0, x1, x2, x3, x4, x5, zI l6, x7, x8] [] 137 h := by
  refine s_fgt (fgt_n _ (fgt_n _ (fgt_n _ (fgt_n _ (fgt_n _ (fgt_n _ (fgt_c (fgt_n _ (fgt_n _ fgt_0))))))))) ?_
  refine s_iload (x := l6) dX0_listen_143 rfl ?_
  exact s_ireturn dX0_listen_145 ⟨.int, rfl, rfl⟩ hq (fun z => by cases z)
theorem dX0_isClash_0 : decode mX0_isClash.cd 0 = .ok (.iload_n 1, 1) := by decide +kernel
theorem dX0_isClash_1 : decode mX0_isClash.cd 1 = .ok (.istore_n 2, 1) := by decide +kernel
theorem dX0_isClash_2 : decode mX0_isClash.cd 2 = .ok (.iload_n 2, 1) := by decide +kernel
theorem dX0_isClash_3 : decode mX0_isClash.cd 3 = .ok (.ifCond .eq 38, 3) := by decide +kernel
theorem dX0_isClash_6 : decode mX0_isClash.cd 6 = .ok (.iload_n 2, 1) := by decide +kernel
theorem dX0_isClash_7 : decode mX0_isClash.cd 7 = .ok (.invokestatic 67, 3) := by decide +kernel
theorem dX0_isClash_10 : decode mX0_isClash.cd 10 = .ok (.istore_n 3, 1) := by decide +kernel
theorem dX0_isClash_11 : decode mX0_isClash.cd 11 = .ok (.iload_n 1, 1) := by decide +kernel
theorem dX0_isClash_12 : decode mX0_isClash.cd 12 = .ok (.aload_n 0, 1) := by decide +kernel
theorem dX0_isClash_13 : decode mX0_isClash.cd 13 = .ok (.getfield 71, 3) := by decide +kernel
theorem dX0_isClash_16 : decode mX0_isClash.cd 16 = .ok (.iload_n 3, 1) := by decide +kernel
theorem dX0_isClash_17 : decode mX0_isClash.cd 17 = .ok (.iaload, 1) := by decide +kernel
theorem dX0_isClash_18 : decode mX0_isClash.cd 18 = .ok (.iconst (-1), 1) := by decide +kernel
theorem dX0_isClash_19 : decode mX0_isClash.cd 19 = .ok (.ixor, 1) := by decide +kernel
theorem dX0_isClash_20 : decode mX0_isClash.cd 20 = .ok (.iand, 1) := by decide +kernel
theorem dX0_isClash_21 : decode mX0_isClash.cd 21 = .ok (.iconst 1, 1) := by decide +kernel
theorem dX0_isClash_22 : decode mX0_isClash.cd 22 = .ok (.iload_n 3, 1) := by decide +kernel
theorem dX0_isClash_23 : decode mX0_isClash.cd 23 = .ok (.ishl, 1) := by decide +kernel
theorem dX0_isClash_24 : decode mX0_isClash.cd 24 = .ok (.iconst (-1), 1) := by decide +kernel
theorem dX0_isClash_25 : decode mX0_isClash.cd 25 = .ok (.ixor, 1) := by decide +kernel
theorem dX0_isClash_26 : decode mX0_isClash.cd 26 = .ok (.iand, 1) := by decide +kernel
theorem dX0_isClash_27 : decode mX0_isClash.cd 27 = .ok (.ifCond .eq 5, 3) := by decide +kernel
theorem dX0_isClash_30 : decode mX0_isClash.cd 30 = .ok (.iconst 1, 1) := by decide +kernel
theorem dX0_isClash_31 : decode mX0_isClash.cd 31 = .ok (.ireturn, 1) := by decide +kernel
theorem dX0_isClash_32 : decode mX0_isClash.cd 32 = .ok (.iload_n 2, 1) := by decide +kernel
theorem dX0_isClash_33 : decode mX0_isClash.cd 33 = .ok (.iload_n 2, 1) := by decide +kernel
theorem dX0_isClash_34 : decode mX0_isClash.cd 34 = .ok (.iconst 1, 1) := by decide +kernel
theorem dX0_isClash_35 : decode mX0_isClash.cd 35 = .ok (.isub, 1) := by decide +kernel
theorem dX0_isClash_36 : decode mX0_isClash.cd 36 = .ok (.iand, 1) := by decide +kernel
theorem dX0_isClash_37 : decode mX0_isClash.cd 37 = .ok (.istore_n 2, 1) := by decide +kernel
theorem dX0_isClash_38 : decode mX0_isClash.cd 38 = .ok (.goto (-36), 3) := by decide +kernel
theorem dX0_isClash_41 : decode mX0_isClash.cd 41 = .ok (.iconst 0, 1) := by decide +kernel
theorem dX0_isClash_42 : decode mX0_isClash.cd 42 = .ok (.ireturn, 1) := by decide +kernel
theorem bX0_isClash_0 {fr M1 M2 b1 b2 : Nat} {Q : RS → Nat → AH → Prop} {h : AH} {l0 l1 : Int} {x2 x3 : AV}   (kk : Wp mX0_isClash (kR fr M1 M2) Q (b1, b2) 2 [zR l0, zI l1, zI l1, none] [] 137 h) : Wp mX0_isClash (kR fr M1 M2) Q (b1, b2) 0 [zR l0, zI l1, x2, x3] [] 137 h := by
  refine s_fgt (fgt_c (fgt_c (fgt_n _ (fgt_n _ fgt_0)))) ?_
  refine s_iload_n (x := l1) dX0_isClash_0 rfl ?_
  refine s_istore_n dX0_isClash_1 rfl (by decide) ?_
  exact kk
theorem bX0_isClash_2 {fr M1 M2 b1 b2 : Nat} {Q : RS → Nat → AH → Prop} {h : AH} {l0 l1 l2 : Int} {x3 : AV}  (r1 : -2147483648 ≤ l2 ∧ l2 < 2147483648 := by omega) (kt : l2 = 0 → Wp mX0_isClash (kR fr M1 M2) Q (b1, b2) 41 [zR l0, zI l1, zI l2, none] [] 137 h) (kf : ¬ l2 = 0 → Wp mX0_isClash (kR fr M1 M2) Q (b1, b2) 6 [zR l0, zI l1, zI l2, none] [] 137 h) : Wp mX0_isClash (kR fr M1 M2) Q (b1, b2) 2 [zR l0, zI l1, zI l2, x3] [] 137 h := by
  refine s_fgt (fgt_c (fgt_c (fgt_c (fgt_n _ fgt_0)))) ?_
  refine s_iload_n (x := l2) dX0_isClash_2 rfl ?_
  exact s_if_eq (tgt := 41) dX0_isClash_3 (by decide) r1 kt kf
theorem bX0_isClash_6 {fr M1 M2 b1 b2 : Nat} {Q : RS → Nat → AH → Prop} {h : AH} {l0 l1 l2 : Int} {x3 : AV} {R : Int → AH → Prop}   (hS : Sp mX11_lowestBit true (fr - 1) 0 0 [zI l2] 137 h (rI R)) (hf : 1 ≤ fr := by omega) (kk : ∀ (x : Int) (h' : AH), R x h' → Wp mX0_isClash (kR fr M1 M2) Q (b1, b2) 10 [zR l0, zI l1, zI l2, none] [zI x] 137 h') : Wp mX0_isClash (kR fr M1 M2) Q (b1, b2) 6 [zR l0, zI l1, zI l2, x3] [] 137 h := by
  refine s_fgt (fgt_c (fgt_c (fgt_c (fgt_n _ fgt_0)))) ?_
  refine s_iload_n (x := l2) dX0_isClash_6 rfl ?_
  exact s_callSN (host := "EchoGorge") (as := [zI l2]) (st := []) dX0_isClash_7 (by decide +kernel) kX0_67.1 kX0_67.2 rfl rfl rfl (Nat.le_of_ble_eq_true rfl) hS rI_nt (show fr - 1 + 1 ≤ fr by omega) (Nat.zero_le _) (Nat.zero_le _) (fun v n' h' hP _ => by obtain ⟨x, e, rfl, hR⟩ := hP; cases e; exact kk x h' hR)
theorem bX0_isClash_10 {fr M1 M2 b1 b2 : Nat} {Q : RS → Nat → AH → Prop} {h : AH} {l0 l1 l2 s0 : Int} {x3 : AV} (c1 : cel 137 l0 (2, 21) := by first | assumption | omega) (r1 : 0 ≤ s0 ∧ s0 < 8 := by omega) (r2 : 0 ≤ s0 ∧ s0 < 32 := by omega) (r3 : -2147483648 ≤ bAnd (bAnd l1 (bXor (h (l0 + 3) s0) (-1))) (bXor (1 * 2 ^ s0.toNat) (-1)) ∧ bAnd (bAnd l1 (bXor (h (l0 + 3) s0) (-1))) (bXor (1 * 2 ^ s0.toNat) (-1)) < 2147483648 := by omega) (kt : bAnd (bAnd l1 (bXor (h (l0 + 3) s0) (-1))) (bXor (1 * 2 ^ s0.toNat) (-1)) = 0 → Wp mX0_isClash (kR fr M1 M2) Q (b1, b2) 32 [zR l0, zI l1, zI l2, zI s0] [] 137 h) (kf : ¬ bAnd (bAnd l1 (bXor (h (l0 + 3) s0) (-1))) (bXor (1 * 2 ^ s0.toNat) (-1)) = 0 → Wp mX0_isClash (kR fr M1 M2) Q (b1, b2) 30 [zR l0, zI l1, zI l2, zI s0] [] 137 h) : Wp mX0_isClash (kR fr M1 M2) Q (b1, b2) 10 [zR l0, zI l1, zI l2, x3] [zI s0] 137 h := by
  refine s_fgt (fgt_c (fgt_c (fgt_c (fgt_n _ fgt_0)))) ?_
  refine s_istore_n dX0_isClash_10 rfl (by decide) ?_
  refine s_iload_n (x := l1) dX0_isClash_11 rfl ?_
  refine s_aload_n (x := l0) dX0_isClash_12 rfl ?_
  refine s_getFd (c := l0) (d := l0 + 3) dX0_isClash_13 lX0_71 c1 (Or.inl rfl) rfl (ne0 (fin_X2_9 c1)) ?_
  refine s_iload_n (x := s0) dX0_isClash_16 rfl ?_
  refine s_iald (c := l0 + 3) (i := s0) dX0_isClash_17 (fin_X2_9 c1) r1.1 r1.2 ?_
  refine s_iconst dX0_isClash_18 ?_
  refine s_ixor dX0_isClash_19 ?_
  refine s_iand dX0_isClash_20 ?_
  refine s_iconst dX0_isClash_21 ?_
  refine s_iload_n (x := s0) dX0_isClash_22 rfl ?_
  refine s_ishlN dX0_isClash_23 r2.1 r2.2 ?_
  refine s_iconst dX0_isClash_24 ?_
  refine s_ixor dX0_isClash_25 ?_
  refine s_iand dX0_isClash_26 ?_
  exact s_if_eq (tgt := 32) dX0_isClash_27 (by decide) r3 kt kf
theorem bX0_isClash_30 {fr M1 M2 b1 b2 : Nat} {Q : RS → Nat → AH → Prop} {h : AH} {x0 x1 x2 x3 : AV}   (hq : Q (.inl (some (zI 1))) 137 h) : Wp mX0_isClash (kR fr M1 M2) Q (b1, b2) 30 [x0, x1, x2, x3] [] 137 h := by
  refine s_fgt (fgt_n _ (fgt_n _ (fgt_n _ (fgt_n _ fgt_0)))) ?_
  refine s_iconst dX0_isClash_30 ?_
  exact s_ireturn dX0_isClash_31 ⟨.boolean, rfl, by decide⟩ hq (fun z => by cases z)
theorem bX0_isClash_32 {fr M1 M2 b1 b2 : Nat} {Q : RS → Nat → AH → Prop} {h : AH} {l0 l1 l2 : Int} {x3 : AV}   (kk : Wp mX0_isClash (kR fr M1 M2) Q (b1, b2) 2 [zR l0, zI l1, zI (bAnd l2 (l2 - 1)), none] [] 137 h) : Wp mX0_isClash (kR fr M1 M2) Q (b1, b2) 32 [zR l0, zI l1, zI l2, x3] [] 137 h := by
  refine s_fgt (fgt_c (fgt_c (fgt_c (fgt_n _ fgt_0)))) ?_
  refine s_iload_n (x := l2) dX0_isClash_32 rfl ?_
  refine s_iload_n (x := l2) dX0_isClash_33 rfl ?_
  refine s_iconst dX0_isClash_34 ?_
  refine s_isub dX0_isClash_35 ?_
  refine s_iand dX0_isClash_36 ?_
  refine s_istore_n dX0_isClash_37 rfl (by decide) ?_
  exact s_goto (tgt := 2) dX0_isClash_38 (by decide) kk
theorem bX0_isClash_41 {fr M1 M2 b1 b2 : Nat} {Q : RS → Nat → AH → Prop} {h : AH} {x0 x1 x2 x3 : AV}   (hq : Q (.inl (some (zI 0))) 137 h) : Wp mX0_isClash (kR fr M1 M2) Q (b1, b2) 41 [x0, x1, x2, x3] [] 137 h := by
  refine s_fgt (fgt_n _ (fgt_n _ (fgt_n _ (fgt_n _ fgt_0)))) ?_
  refine s_iconst dX0_isClash_41 ?_
  exact s_ireturn dX0_isClash_42 ⟨.boolean, rfl, by decide⟩ hq (fun z => by cases z)
theorem dX2_clear_0 : decode mX2_clear.cd 0 = .ok (.aload_n 0, 1) := by decide +kernel
theorem dX2_clear_1 : decode mX2_clear.cd 1 = .ok (.iconst 0, 1) := by decide +kernel
theorem dX2_clear_2 : decode mX2_clear.cd 2 = .ok (.putfield 57, 3) := by decide +kernel
theorem dX2_clear_5 : decode mX2_clear.cd 5 = .ok (.aload_n 0, 1) := by decide +kernel
theorem dX2_clear_6 : decode mX2_clear.cd 6 = .ok (.iconst 0, 1) := by decide +kernel
theorem dX2_clear_7 : decode mX2_clear.cd 7 = .ok (.putfield 61, 3) := by decide +kernel
theorem dX2_clear_10 : decode mX2_clear.cd 10 = .ok (.aload_n 0, 1) := by decide +kernel
theorem dX2_clear_11 : decode mX2_clear.cd 11 = .ok (.iconst 0, 1) := by decide +kernel
theorem dX2_clear_12 : decode mX2_clear.cd 12 = .ok (.putfield 64, 3) := by decide +kernel
theorem dX2_clear_15 : decode mX2_clear.cd 15 = .ok (.aload_n 0, 1) := by decide +kernel
theorem dX2_clear_16 : decode mX2_clear.cd 16 = .ok (.iconst 0, 1) := by decide +kernel
theorem dX2_clear_17 : decode mX2_clear.cd 17 = .ok (.putfield 67, 3) := by decide +kernel
theorem dX2_clear_20 : decode mX2_clear.cd 20 = .ok (.aload_n 0, 1) := by decide +kernel
theorem dX2_clear_21 : decode mX2_clear.cd 21 = .ok (.iconst 1, 1) := by decide +kernel
theorem dX2_clear_22 : decode mX2_clear.cd 22 = .ok (.putfield 70, 3) := by decide +kernel
theorem dX2_clear_25 : decode mX2_clear.cd 25 = .ok (.aload_n 0, 1) := by decide +kernel
theorem dX2_clear_26 : decode mX2_clear.cd 26 = .ok (.iconst 0, 1) := by decide +kernel
theorem dX2_clear_27 : decode mX2_clear.cd 27 = .ok (.putfield 73, 3) := by decide +kernel
theorem dX2_clear_30 : decode mX2_clear.cd 30 = .ok (.aload_n 0, 1) := by decide +kernel
theorem dX2_clear_31 : decode mX2_clear.cd 31 = .ok (.iconst 0, 1) := by decide +kernel
theorem dX2_clear_32 : decode mX2_clear.cd 32 = .ok (.putfield 76, 3) := by decide +kernel
theorem dX2_clear_35 : decode mX2_clear.cd 35 = .ok (.aload_n 0, 1) := by decide +kernel
theorem dX2_clear_36 : decode mX2_clear.cd 36 = .ok (.getfield 18, 3) := by decide +kernel
theorem dX2_clear_39 : decode mX2_clear.cd 39 = .ok (.iconst 0, 1) := by decide +kernel
theorem dX2_clear_40 : decode mX2_clear.cd 40 = .ok (.invokestatic 79, 3) := by decide +kernel
theorem dX2_clear_43 : decode mX2_clear.cd 43 = .ok (.aload_n 0, 1) := by decide +kernel
theorem dX2_clear_44 : decode mX2_clear.cd 44 = .ok (.getfield 33, 3) := by decide +kernel
theorem dX2_clear_47 : decode mX2_clear.cd 47 = .ok (.iconst 0, 1) := by decide +kernel
theorem dX2_clear_48 : decode mX2_clear.cd 48 = .ok (.invokestatic 79, 3) := by decide +kernel
theorem dX2_clear_51 : decode mX2_clear.cd 51 = .ok (.aload_n 0, 1) := by decide +kernel
theorem dX2_clear_52 : decode mX2_clear.cd 52 = .ok (.getfield 36, 3) := by decide +kernel
theorem dX2_clear_55 : decode mX2_clear.cd 55 = .ok (.bipush 100, 2) := by decide +kernel
theorem dX2_clear_57 : decode mX2_clear.cd 57 = .ok (.invokestatic 79, 3) := by decide +kernel
theorem dX2_clear_60 : decode mX2_clear.cd 60 = .ok (.return_, 1) := by decide +kernel
theorem bX2_clear_0 {fr M1 M2 b1 b2 : Nat} {Q : RS → Nat → AH → Prop} {h : AH} {l0 : Int} {R : AH → Prop} (c1 : cel 137 l0 (2, 21) := by first | assumption | omega)  (hS : Sp mJ7_fill_53178 true (fr - 1) 0 0 [zR (l0 + 3), zI 0] 137 (up (up (up (up (up (up (up h l0 0 0) l0 1 0) l0 2 0) l0 3 0) l0 4 1) l0 5 0) l0 6 0) (rV R)) (hf : 1 ≤ fr := by omega) (kk : ∀ h' : AH, R h' → Wp mX2_clear (kR fr M1 M2) Q (b1, b2) 43 [zR l0] [] 137 h') : Wp mX2_clear (kR fr M1 M2) Q (b1, b2) 0 [zR l0] [] 137 h := by
  refine s_aload_n (x := l0) dX2_clear_0 rfl ?_
  refine s_iconst dX2_clear_1 ?_
  refine s_put (c := l0) dX2_clear_2 lX2_57 c1 ?_
  refine s_aload_n (x := l0) dX2_clear_5 rfl ?_
  refine s_iconst dX2_clear_6 ?_
  refine s_put (c := l0) dX2_clear_7 lX2_61 c1 ?_
  refine s_aload_n (x := l0) dX2_clear_10 rfl ?_
  refine s_iconst dX2_clear_11 ?_
  refine s_put (c := l0) dX2_clear_12 lX2_64 c1 ?_
  refine s_aload_n (x := l0) dX2_clear_15 rfl ?_
  refine s_iconst dX2_clear_16 ?_
  refine s_put (c := l0) dX2_clear_17 lX2_67 c1 ?_
  refine s_aload_n (x := l0) dX2_clear_20 rfl ?_
  refine s_iconst dX2_clear_21 ?_
  refine s_put (c := l0) dX2_clear_22 lX2_70 c1 ?_
  refine s_aload_n (x := l0) dX2_clear_25 rfl ?_
  refine s_iconst dX2_clear_26 ?_
  refine s_put (c := l0) dX2_clear_27 lX2_73 c1 ?_
  refine s_aload_n (x := l0) dX2_clear_30 rfl ?_
  refine s_iconst dX2_clear_31 ?_
  refine s_put (c := l0) dX2_clear_32 lX2_76 c1 ?_
  refine s_aload_n (x := l0) dX2_clear_35 rfl ?_
  refine s_getFd (c := l0) (d := l0 + 3) dX2_clear_36 lX2_18 c1 (Or.inl rfl) rfl (ne0 (fin_X2_9 c1)) ?_
  refine s_iconst dX2_clear_39 ?_
  exact s_callS (as := [zR (l0 + 3), zI 0]) (st := []) dX2_clear_40 kX2_79 rfl rfl (Nat.le_of_ble_eq_true rfl) hS (show fr - 1 + 1 ≤ fr by omega) (Nat.zero_le _) (Nat.zero_le _) (fun v n' h' hP _ => by obtain ⟨e, rfl, hR⟩ := hP; cases e; exact kk h' hR) (fun E n' h' _ z => (rV_nt _ _ _ z).elim)
theorem bX2_clear_43 {fr M1 M2 b1 b2 : Nat} {Q : RS → Nat → AH → Prop} {h : AH} {l0 : Int} {R : AH → Prop} (c1 : cel 137 l0 (2, 21) := by first | assumption | omega)  (hS : Sp mJ7_fill_53178 true (fr - 1) 0 0 [zR (l0 + 8), zI 0] 137 h (rV R)) (hf : 1 ≤ fr := by omega) (kk : ∀ h' : AH, R h' → Wp mX2_clear (kR fr M1 M2) Q (b1, b2) 51 [zR l0] [] 137 h') : Wp mX2_clear (kR fr M1 M2) Q (b1, b2) 43 [zR l0] [] 137 h := by
  refine s_aload_n (x := l0) dX2_clear_43 rfl ?_
  refine s_getFd (c := l0) (d := l0 + 8) dX2_clear_44 lX2_33 c1 (Or.inl rfl) rfl (ne0 (fin_X2_14 c1)) ?_
  refine s_iconst dX2_clear_47 ?_
  exact s_callS (as := [zR (l0 + 8), zI 0]) (st := []) dX2_clear_48 kX2_79 rfl rfl (Nat.le_of_ble_eq_true rfl) hS (show fr - 1 + 1 ≤ fr by omega) (Nat.zero_le _) (Nat.zero_le _) (fun v n' h' hP _ => by obtain ⟨e, rfl, hR⟩ := hP; cases e; exact kk h' hR) (fun E n' h' _ z => (rV_nt _ _ _ z).elim)
theorem bX2_clear_51 {fr M1 M2 b1 b2 : Nat} {Q : RS → Nat → AH → Prop} {h : AH} {l0 : Int} {R : AH → Prop} (c1 : cel 137 l0 (2, 21) := by first | assumption | omega)  (hS : Sp mJ7_fill_53178 true (fr - 1) 0 0 [zR (l0 + 9), zI 100] 137 h (rV R)) (hf : 1 ≤ fr := by omega) (kk : ∀ h' : AH, R h' → Wp mX2_clear (kR fr M1 M2) Q (b1, b2) 60 [zR l0] [] 137 h') : Wp mX2_clear (kR fr M1 M2) Q (b1, b2) 51 [zR l0] [] 137 h := by
  refine s_aload_n (x := l0) dX2_clear_51 rfl ?_
  refine s_getFd (c := l0) (d := l0 + 9) dX2_clear_52 lX2_36 c1 (Or.inl rfl) rfl (ne0 (fin_X2_15 c1)) ?_
  refine s_bipush dX2_clear_55 (by decide) ?_
  exact s_callS (as := [zR (l0 + 9), zI 100]) (st := []) dX2_clear_57 kX2_79 rfl rfl (Nat.le_of_ble_eq_true rfl) hS (show fr - 1 + 1 ≤ fr by omega) (Nat.zero_le _) (Nat.zero_le _) (fun v n' h' hP _ => by obtain ⟨e, rfl, hR⟩ := hP; cases e; exact kk h' hR) (fun E n' h' _ z => (rV_nt _ _ _ z).elim)
theorem bX2_clear_60 {fr M1 M2 b1 b2 : Nat} {Q : RS → Nat → AH → Prop} {h : AH} {x0 : AV}   (hq : Q (.inl none) 137 h) : Wp mX2_clear (kR fr M1 M2) Q (b1, b2) 60 [x0] [] 137 h := by
  refine s_fgt (fgt_n _ fgt_0) ?_
  exact s_return dX2_clear_60 rfl hq (fun z => by cases z)
theorem dX2_swallowsSound_0 : decode mX2_swallowsSound.cd 0 = .ok (.aload_n 0, 1) := by decide +kernel
theorem dX2_swallowsSound_1 : decode mX2_swallowsSound.cd 1 = .ok (.getfield 27, 3) := by decide +kernel
theorem dX2_swallowsSound_4 : decode mX2_swallowsSound.cd 4 = .ok (.iload_n 1, 1) := by decide +kernel
theorem dX2_swallowsSound_5 : decode mX2_swallowsSound.cd 5 = .ok (.iaload, 1) := by decide +kernel
theorem dX2_swallowsSound_6 : decode mX2_swallowsSound.cd 6 = .ok (.aload_n 0, 1) := by decide +kernel
theorem dX2_swallowsSound_7 : decode mX2_swallowsSound.cd 7 = .ok (.getfield 15, 3) := by decide +kernel
theorem dX2_swallowsSound_10 : decode mX2_swallowsSound.cd 10 = .ok (.iload_n 2, 1) := by decide +kernel
theorem dX2_swallowsSound_11 : decode mX2_swallowsSound.cd 11 = .ok (.iaload, 1) := by decide +kernel
theorem dX2_swallowsSound_12 : decode mX2_swallowsSound.cd 12 = .ok (.ishr, 1) := by decide +kernel
theorem dX2_swallowsSound_13 : decode mX2_swallowsSound.cd 13 = .ok (.iconst 1, 1) := by decide +kernel
theorem dX2_swallowsSound_14 : decode mX2_swallowsSound.cd 14 = .ok (.iand, 1) := by decide +kernel
theorem dX2_swallowsSound_15 : decode mX2_swallowsSound.cd 15 = .ok (.ifCond .eq 7, 3) := by decide +kernel
theorem dX2_swallowsSound_18 : decode mX2_swallowsSound.cd 18 = .ok (.iconst 1, 1) := by decide +kernel
theorem dX2_swallowsSound_19 : decode mX2_swallowsSound.cd 19 = .ok (.goto 4, 3) := by decide +kernel
theorem dX2_swallowsSound_22 : decode mX2_swallowsSound.cd 22 = .ok (.iconst 0, 1) := by decide +kernel
theorem dX2_swallowsSound_23 : decode mX2_swallowsSound.cd 23 = .ok (.ireturn, 1) := by decide +kernel
theorem bX2_swallowsSound_0 {fr M1 M2 b1 b2 : Nat} {Q : RS → Nat → AH → Prop} {h : AH} {l0 l1 l2 : Int} (c1 : cel 137 l0 (2, 21) := by first | assumption | omega) (r1 : 0 ≤ l1 ∧ l1 < 6 := by omega) (r2 : 0 ≤ l2 ∧ l2 < 8 := by omega) (r3 : 0 ≤ h (l0 + 2) l2 ∧ h (l0 + 2) l2 < 32 := by omega) (r4 : -2147483648 ≤ h (l0 + 6) l1 ∧ h (l0 + 6) l1 < 2147483648 := by omega) (r5 : -2147483648 ≤ bAnd ((h (l0 + 6) l1) / 2 ^ (h (l0 + 2) l2).toNat) 1 ∧ bAnd ((h (l0 + 6) l1) / 2 ^ (h (l0 + 2) l2).toNat) 1 < 2147483648 := by omega) (kt : bAnd ((h (l0 + 6) l1) / 2 ^ (h (l0 + 2) l2).toNat) 1 = 0 → Wp mX2_swallowsSound (kR fr M1 M2) Q (b1, b2) 22 [zR l0, zI l1, zI l2] [] 137 h) (kf : ¬ bAnd ((h (l0 + 6) l1) / 2 ^ (h (l0 + 2) l2).toNat) 1 = 0 → Wp mX2_swallowsSound (kR fr M1 M2) Q (b1, b2) 18 [zR l0, zI l1, zI l2] [] 137 h) : Wp mX2_swallowsSound (kR fr M1 M2) Q (b1, b2) 0 [zR l0, zI l1, zI l2] [] 137 h := by
  refine s_aload_n (x := l0) dX2_swallowsSound_0 rfl ?_
  refine s_getFd (c := l0) (d := l0 + 6) dX2_swallowsSound_1 lX2_27 c1 (Or.inl rfl) rfl (ne0 (fin_X2_12 c1)) ?_
  refine s_iload_n (x := l1) dX2_swallowsSound_4 rfl ?_
  refine s_iald (c := l0 + 6) (i := l1) dX2_swallowsSound_5 (fin_X2_12 c1) r1.1 r1.2 ?_
  refine s_aload_n (x := l0) dX2_swallowsSound_6 rfl ?_
  refine s_getFd (c := l0) (d := l0 + 2) dX2_swallowsSound_7 lX2_15 c1 (Or.inl rfl) rfl (ne0 (fin_X2_8 c1)) ?_
  refine s_iload_n (x := l2) dX2_swallowsSound_10 rfl ?_
  refine s_iald (c := l0 + 2) (i := l2) dX2_swallowsSound_11 (fin_X2_8 c1) r2.1 r2.2 ?_
  refine s_ishrN dX2_swallowsSound_12 r4 r3.1 r3.2 ?_
  refine s_iconst dX2_swallowsSound_13 ?_
  refine s_iand dX2_swallowsSound_14 ?_
  exact s_if_eq (tgt := 22) dX2_swallowsSound_15 (by decide) r5 kt kf
theorem bX2_swallowsSound_18 {fr M1 M2 b1 b2 : Nat} {Q : RS → Nat → AH → Prop} {h : AH} {x0 x1 x2 : AV}   (kk : Wp mX2_swallowsSound (kR fr M1 M2) Q (b1, b2) 23 [none, none, none] [zI 1] 137 h) : Wp mX2_swallowsSound (kR fr M1 M2) Q (b1, b2) 18 [x0, x1, x2] [] 137 h := by
  refine s_fgt (fgt_n _ (fgt_n _ (fgt_n _ fgt_0))) ?_
  refine s_iconst dX2_swallowsSound_18 ?_
  exact s_goto (tgt := 23) dX2_swallowsSound_19 (by decide) kk
theorem bX2_swallowsSound_22 {fr M1 M2 b1 b2 : Nat} {Q : RS → Nat → AH → Prop} {h : AH} {x0 x1 x2 : AV}   (kk : Wp mX2_swallowsSound (kR fr M1 M2) Q (b1, b2) 23 [none, none, none] [zI 0] 137 h) : Wp mX2_swallowsSound (kR fr M1 M2) Q (b1, b2) 22 [x0, x1, x2] [] 137 h := by
  refine s_fgt (fgt_n _ (fgt_n _ (fgt_n _ fgt_0))) ?_
  refine s_iconst dX2_swallowsSound_22 ?_
  exact kk
theorem bX2_swallowsSound_23 {fr M1 M2 b1 b2 : Nat} {Q : RS → Nat → AH → Prop} {h : AH} {s0 : Int} {x0 x1 x2 : AV}  (r1 : s0 = 0 ∨ s0 = 1 := by omega) (hq : Q (.inl (some (zI s0))) 137 h) : Wp mX2_swallowsSound (kR fr M1 M2) Q (b1, b2) 23 [x0, x1, x2] [zI s0] 137 h := by
  refine s_fgt (fgt_n _ (fgt_n _ (fgt_n _ fgt_0))) ?_
  exact s_ireturn dX2_swallowsSound_23 ⟨.boolean, rfl, bool_nar r1⟩ hq (fun z => by cases z)
theorem dX2_foggedShare_0 : decode mX2_foggedShare.cd 0 = .ok (.aload_n 0, 1) := by decide +kernel
theorem dX2_foggedShare_1 : decode mX2_foggedShare.cd 1 = .ok (.getfield 24, 3) := by decide +kernel
theorem dX2_foggedShare_4 : decode mX2_foggedShare.cd 4 = .ok (.iload_n 1, 1) := by decide +kernel
theorem dX2_foggedShare_5 : decode mX2_foggedShare.cd 5 = .ok (.iaload, 1) := by decide +kernel
theorem dX2_foggedShare_6 : decode mX2_foggedShare.cd 6 = .ok (.bipush 100, 2) := by decide +kernel
theorem dX2_foggedShare_8 : decode mX2_foggedShare.cd 8 = .ok (.iload_n 2, 1) := by decide +kernel
theorem dX2_foggedShare_9 : decode mX2_foggedShare.cd 9 = .ok (.isub, 1) := by decide +kernel
theorem dX2_foggedShare_10 : decode mX2_foggedShare.cd 10 = .ok (.imul, 1) := by decide +kernel
theorem dX2_foggedShare_11 : decode mX2_foggedShare.cd 11 = .ok (.bipush 100, 2) := by decide +kernel
theorem dX2_foggedShare_13 : decode mX2_foggedShare.cd 13 = .ok (.idiv, 1) := by decide +kernel
theorem dX2_foggedShare_14 : decode mX2_foggedShare.cd 14 = .ok (.ireturn, 1) := by decide +kernel
theorem bX2_foggedShare_0 {fr M1 M2 b1 b2 : Nat} {Q : RS → Nat → AH → Prop} {h : AH} {l0 l1 l2 : Int} (c1 : cel 137 l0 (2, 21) := by first | assumption | omega) (r1 : 0 ≤ l1 ∧ l1 < 6 := by omega) (r2 : 0 ≤ (h (l0 + 5) l1) * (100 - l2) ∧ (h (l0 + 5) l1) * (100 - l2) < 2147483648 := by omega) (hq : Q (.inl (some (zI (((h (l0 + 5) l1) * (100 - l2)) / 100)))) 137 h) : Wp mX2_foggedShare (kR fr M1 M2) Q (b1, b2) 0 [zR l0, zI l1, zI l2] [] 137 h := by
  refine s_aload_n (x := l0) dX2_foggedShare_0 rfl ?_
  refine s_getFd (c := l0) (d := l0 + 5) dX2_foggedShare_1 lX2_24 c1 (Or.inl rfl) rfl (ne0 (fin_X2_11 c1)) ?_
  refine s_iload_n (x := l1) dX2_foggedShare_4 rfl ?_
  refine s_iald (c := l0 + 5) (i := l1) dX2_foggedShare_5 (fin_X2_11 c1) r1.1 r1.2 ?_
  refine s_bipush dX2_foggedShare_6 (by decide) ?_
  refine s_iload_n (x := l2) dX2_foggedShare_8 rfl ?_
  refine s_isub dX2_foggedShare_9 ?_
  refine s_imul dX2_foggedShare_10 ?_
  refine s_bipush dX2_foggedShare_11 (by decide) ?_
  refine s_idivN dX2_foggedShare_13 r2.1 r2.2 (by decide) (by decide) ?_
  exact s_ireturn dX2_foggedShare_14 ⟨.int, rfl, rfl⟩ hq (fun z => by cases z)
theorem dX7_forget_0 : decode mX7_forget.cd 0 = .ok (.aload_n 0, 1) := by decide +kernel
theorem dX7_forget_1 : decode mX7_forget.cd 1 = .ok (.iconst 0, 1) := by decide +kernel
theorem dX7_forget_2 : decode mX7_forget.cd 2 = .ok (.putfield 21, 3) := by decide +kernel
theorem dX7_forget_5 : decode mX7_forget.cd 5 = .ok (.return_, 1) := by decide +kernel
theorem bX7_forget_0 {fr M1 M2 b1 b2 : Nat} {Q : RS → Nat → AH → Prop} {h : AH} {l0 : Int} (c1 : cel 137 l0 (7, 9) := by first | assumption | omega)  (hq : Q (.inl none) 137 (up h l0 4 0)) : Wp mX7_forget (kR fr M1 M2) Q (b1, b2) 0 [zR l0] [] 137 h := by
  refine s_aload_n (x := l0) dX7_forget_0 rfl ?_
  refine s_iconst dX7_forget_1 ?_
  refine s_putZ (c := l0) dX7_forget_2 lX7_21 c1 (by decide) ?_
  exact s_return dX7_forget_5 rfl hq (fun z => by cases z)
theorem dX7_build_0 : decode mX7_build.cd 0 = .ok (.aload_n 0, 1) := by decide +kernel
theorem dX7_build_1 : decode mX7_build.cd 1 = .ok (.getfield 25, 3) := by decide +kernel
theorem dX7_build_4 : decode mX7_build.cd 4 = .ok (.iload_n 2, 1) := by decide +kernel
theorem dX7_build_5 : decode mX7_build.cd 5 = .ok (.if_icmp .ne 33, 3) := by decide +kernel
theorem dX7_build_8 : decode mX7_build.cd 8 = .ok (.aload_n 0, 1) := by decide +kernel
theorem dX7_build_9 : decode mX7_build.cd 9 = .ok (.getfield 29, 3) := by decide +kernel
theorem dX7_build_12 : decode mX7_build.cd 12 = .ok (.iload_n 3, 1) := by decide +kernel
theorem dX7_build_13 : decode mX7_build.cd 13 = .ok (.if_icmp .ne 25, 3) := by decide +kernel
theorem dX7_build_16 : decode mX7_build.cd 16 = .ok (.aload_n 0, 1) := by decide +kernel
theorem dX7_build_17 : decode mX7_build.cd 17 = .ok (.getfield 32, 3) := by decide +kernel
theorem dX7_build_20 : decode mX7_build.cd 20 = .ok (.iload 4, 2) := by decide +kernel
theorem dX7_build_22 : decode mX7_build.cd 22 = .ok (.if_icmp .ne 16, 3) := by decide +kernel
theorem dX7_build_25 : decode mX7_build.cd 25 = .ok (.aload_n 0, 1) := by decide +kernel
theorem dX7_build_26 : decode mX7_build.cd 26 = .ok (.getfield 35, 3) := by decide +kernel
theorem dX7_build_29 : decode mX7_build.cd 29 = .ok (.iload 5, 2) := by decide +kernel
theorem dX7_build_31 : decode mX7_build.cd 31 = .ok (.if_icmp .ne 7, 3) := by decide +kernel
theorem dX7_build_34 : decode mX7_build.cd 34 = .ok (.iconst 1, 1) := by decide +kernel
theorem dX7_build_35 : decode mX7_build.cd 35 = .ok (.goto 4, 3) := by decide +kernel
theorem dX7_build_38 : decode mX7_build.cd 38 = .ok (.iconst 0, 1) := by decide +kernel
theorem dX7_build_39 : decode mX7_build.cd 39 = .ok (.istore 6, 2) := by decide +kernel
theorem dX7_build_41 : decode mX7_build.cd 41 = .ok (.aload_n 0, 1) := by decide +kernel
theorem dX7_build_42 : decode mX7_build.cd 42 = .ok (.getfield 21, 3) := by decide +kernel
theorem dX7_build_45 : decode mX7_build.cd 45 = .ok (.ifCond .eq 9, 3) := by decide +kernel
theorem dX7_build_48 : decode mX7_build.cd 48 = .ok (.iload 6, 2) := by decide +kernel
theorem dX7_build_50 : decode mX7_build.cd 50 = .ok (.ifCond .eq 4, 3) := by decide +kernel
theorem dX7_build_53 : decode mX7_build.cd 53 = .ok (.return_, 1) := by decide +kernel
theorem dX7_build_54 : decode mX7_build.cd 54 = .ok (.aload_n 0, 1) := by decide +kernel
theorem dX7_build_55 : decode mX7_build.cd 55 = .ok (.iconst 1, 1) := by decide +kernel
theorem dX7_build_56 : decode mX7_build.cd 56 = .ok (.putfield 21, 3) := by decide +kernel
theorem dX7_build_59 : decode mX7_build.cd 59 = .ok (.aload_n 0, 1) := by decide +kernel
theorem dX7_build_60 : decode mX7_build.cd 60 = .ok (.iload_n 2, 1) := by decide +kernel
theorem dX7_build_61 : decode mX7_build.cd 61 = .ok (.putfield 25, 3) := by decide +kernel
theorem dX7_build_64 : decode mX7_build.cd 64 = .ok (.aload_n 0, 1) := by decide +kernel
theorem dX7_build_65 : decode mX7_build.cd 65 = .ok (.iload_n 3, 1) := by decide +kernel
theorem dX7_build_66 : decode mX7_build.cd 66 = .ok (.putfield 29, 3) := by decide +kernel
theorem dX7_build_69 : decode mX7_build.cd 69 = .ok (.aload_n 0, 1) := by decide +kernel
theorem dX7_build_70 : decode mX7_build.cd 70 = .ok (.iload 4, 2) := by decide +kernel
theorem dX7_build_72 : decode mX7_build.cd 72 = .ok (.putfield 32, 3) := by decide +kernel
theorem dX7_build_75 : decode mX7_build.cd 75 = .ok (.aload_n 0, 1) := by decide +kernel
theorem dX7_build_76 : decode mX7_build.cd 76 = .ok (.iload 5, 2) := by decide +kernel
theorem dX7_build_78 : decode mX7_build.cd 78 = .ok (.putfield 35, 3) := by decide +kernel
theorem dX7_build_81 : decode mX7_build.cd 81 = .ok (.aload_n 0, 1) := by decide +kernel
theorem dX7_build_82 : decode mX7_build.cd 82 = .ok (.iconst 0, 1) := by decide +kernel
theorem dX7_build_83 : decode mX7_build.cd 83 = .ok (.putfield 38, 3) := by decide +kernel
theorem dX7_build_86 : decode mX7_build.cd 86 = .ok (.aload_n 0, 1) := by decide +kernel
theorem dX7_build_87 : decode mX7_build.cd 87 = .ok (.aload_n 1, 1) := by decide +kernel
theorem dX7_build_88 : decode mX7_build.cd 88 = .ok (.getfield 41, 3) := by decide +kernel
theorem dX7_build_91 : decode mX7_build.cd 91 = .ok (.iload_n 2, 1) := by decide +kernel
theorem dX7_build_92 : decode mX7_build.cd 92 = .ok (.iaload, 1) := by decide +kernel
theorem dX7_build_93 : decode mX7_build.cd 93 = .ok (.invokevirtual 46, 3) := by decide +kernel
theorem dX7_build_96 : decode mX7_build.cd 96 = .ok (.istore 7, 2) := by decide +kernel
theorem dX7_build_98 : decode mX7_build.cd 98 = .ok (.aload_n 1, 1) := by decide +kernel
theorem dX7_build_99 : decode mX7_build.cd 99 = .ok (.getfield 50, 3) := by decide +kernel
theorem dX7_build_102 : decode mX7_build.cd 102 = .ok (.iconst 0, 1) := by decide +kernel
theorem dX7_build_103 : decode mX7_build.cd 103 = .ok (.aload_n 0, 1) := by decide +kernel
theorem dX7_build_104 : decode mX7_build.cd 104 = .ok (.getfield 15, 3) := by decide +kernel
theorem dX7_build_107 : decode mX7_build.cd 107 = .ok (.iload 7, 2) := by decide +kernel
theorem dX7_build_109 : decode mX7_build.cd 109 = .ok (.bipush 8, 2) := by decide +kernel
theorem dX7_build_111 : decode mX7_build.cd 111 = .ok (.imul, 1) := by decide +kernel
theorem dX7_build_112 : decode mX7_build.cd 112 = .ok (.aload_n 1, 1) := by decide +kernel
theorem dX7_build_113 : decode mX7_build.cd 113 = .ok (.getfield 51, 3) := by decide +kernel
theorem dX7_build_116 : decode mX7_build.cd 116 = .ok (.invokestatic 54, 3) := by decide +kernel
theorem dX7_build_119 : decode mX7_build.cd 119 = .ok (.iconst 0, 1) := by decide +kernel
theorem dX7_build_120 : decode mX7_build.cd 120 = .ok (.istore 8, 2) := by decide +kernel
theorem dX7_build_122 : decode mX7_build.cd 122 = .ok (.iload 8, 2) := by decide +kernel
theorem dX7_build_124 : decode mX7_build.cd 124 = .ok (.aload_n 1, 1) := by decide +kernel
theorem dX7_build_125 : decode mX7_build.cd 125 = .ok (.getfield 60, 3) := by decide +kernel
theorem dX7_build_128 : decode mX7_build.cd 128 = .ok (.if_icmp .ge 23, 3) := by decide +kernel
theorem dX7_build_131 : decode mX7_build.cd 131 = .ok (.iload 8, 2) := by decide +kernel
theorem dX7_build_133 : decode mX7_build.cd 133 = .ok (.iload 5, 2) := by decide +kernel
theorem dX7_build_135 : decode mX7_build.cd 135 = .ok (.if_icmp .eq 10, 3) := by decide +kernel
theorem dX7_build_138 : decode mX7_build.cd 138 = .ok (.aload_n 0, 1) := by decide +kernel
theorem dX7_build_139 : decode mX7_build.cd 139 = .ok (.aload_n 1, 1) := by decide +kernel
theorem dX7_build_140 : decode mX7_build.cd 140 = .ok (.iload 8, 2) := by decide +kernel
theorem dX7_build_142 : decode mX7_build.cd 142 = .ok (.invokevirtual 63, 3) := by decide +kernel
theorem dX7_build_145 : decode mX7_build.cd 145 = .ok (.iinc 8 1, 3) := by decide +kernel
theorem dX7_build_148 : decode mX7_build.cd 148 = .ok (.goto (-26), 3) := by decide +kernel
theorem dX7_build_151 : decode mX7_build.cd 151 = .ok (.return_, 1) := by decide +kernel
theorem bX7_build_0 {fr M1 M2 b1 b2 : Nat} {Q : RS → Nat → AH → Prop} {h : AH} {l0 l1 l2 l3 l4 l5 : Int} {x6 x7 x8 : AV} (c1 : cel 137 l0 (7, 9) := by first | assumption | omega) (r1 : -2147483648 ≤ h l0 5 ∧ h l0 5 < 2147483648 := by omega) (r2 : -2147483648 ≤ l2 ∧ l2 < 2147483648 := by omega) (kt : ¬ h l0 5 = l2 → Wp mX7_build (kR fr M1 M2) Q (b1, b2) 38 [zR l0, zR l1, zI l2, zI l3, zI l4, zI l5, none, none, none] [] 137 h) (kf : h l0 5 = l2 → Wp mX7_build (kR fr M1 M2) Q (b1, b2) 8 [zR l0, zR l1, zI l2, zI l3, zI l4, zI l5, none, none, none] [] 137 h) : Wp mX7_build (kR fr M1 M2) Q (b1, b2) 0 [zR l0, zR l1, zI l2, zI l3, zI l4, zI l5, x6, x7, x8] [] 137 h := by
  refine s_fgt (fgt_c (fgt_c (fgt_c (fgt_c (fgt_c (fgt_c (fgt_n _ (fgt_n _ (fgt_n _ fgt_0))))))))) ?_
  refine s_aload_n (x := l0) dX7_build_0 rfl ?_
  refine s_get (c := l0) dX7_build_1 lX7_25 c1 (by decide) ?_
  refine s_iload_n (x := l2) dX7_build_4 rfl ?_
  exact s_icmp_ne (tgt := 38) dX7_build_5 (by decide) r1 r2 kt kf
theorem bX7_build_8 {fr M1 M2 b1 b2 : Nat} {Q : RS → Nat → AH → Prop} {h : AH} {l0 l1 l2 l3 l4 l5 : Int} {x6 x7 x8 : AV} (c1 : cel 137 l0 (7, 9) := by first | assumption | omega) (r1 : -2147483648 ≤ h l0 6 ∧ h l0 6 < 2147483648 := by omega) (r2 : -2147483648 ≤ l3 ∧ l3 < 2147483648 := by omega) (kt : ¬ h l0 6 = l3 → Wp mX7_build (kR fr M1 M2) Q (b1, b2) 38 [zR l0, zR l1, zI l2, zI l3, zI l4, zI l5, none, none, none] [] 137 h) (kf : h l0 6 = l3 → Wp mX7_build (kR fr M1 M2) Q (b1, b2) 16 [zR l0, zR l1, zI l2, zI l3, zI l4, zI l5, none, none, none] [] 137 h) : Wp mX7_build (kR fr M1 M2) Q (b1, b2) 8 [zR l0, zR l1, zI l2, zI l3, zI l4, zI l5, x6, x7, x8] [] 137 h := by
  refine s_fgt (fgt_c (fgt_c (fgt_c (fgt_c (fgt_c (fgt_c (fgt_n _ (fgt_n _ (fgt_n _ fgt_0))))))))) ?_
  refine s_aload_n (x := l0) dX7_build_8 rfl ?_
  refine s_get (c := l0) dX7_build_9 lX7_29 c1 (by decide) ?_
  refine s_iload_n (x := l3) dX7_build_12 rfl ?_
  exact s_icmp_ne (tgt := 38) dX7_build_13 (by decide) r1 r2 kt kf
theorem bX7_build_16 {fr M1 M2 b1 b2 : Nat} {Q : RS → Nat → AH → Prop} {h : AH} {l0 l1 l2 l3 l4 l5 : Int} {x6 x7 x8 : AV} (c1 : cel 137 l0 (7, 9) := by first | assumption | omega) (r1 : -2147483648 ≤ h l0 7 ∧ h l0 7 < 2147483648 := by omega) (r2 : -2147483648 ≤ l4 ∧ l4 < 2147483648 := by omega) (kt : ¬ h l0 7 = l4 → Wp mX7_build (kR fr M1 M2) Q (b1, b2) 38 [zR l0, zR l1, zI l2, zI l3, zI l4, zI l5, none, none, none] [] 137 h) (kf : h l0 7 = l4 → Wp mX7_build (kR fr M1 M2) Q (b1, b2) 25 [zR l0, zR l1, zI l2, zI l3, zI l4, zI l5, none, none, none] [] 137 h) : Wp mX7_build (kR fr M1 M2) Q (b1, b2) 16 [zR l0, zR l1, zI l2, zI l3, zI l4, zI l5, x6, x7, x8] [] 137 h := by
  refine s_fgt (fgt_c (fgt_c (fgt_c (fgt_c (fgt_c (fgt_c (fgt_n _ (fgt_n _ (fgt_n _ fgt_0))))))))) ?_
  refine s_aload_n (x := l0) dX7_build_16 rfl ?_
  refine s_get (c := l0) dX7_build_17 lX7_32 c1 (by decide) ?_
  refine s_iload (x := l4) dX7_build_20 rfl ?_
  exact s_icmp_ne (tgt := 38) dX7_build_22 (by decide) r1 r2 kt kf
theorem bX7_build_25 {fr M1 M2 b1 b2 : Nat} {Q : RS → Nat → AH → Prop} {h : AH} {l0 l1 l2 l3 l4 l5 : Int} {x6 x7 x8 : AV} (c1 : cel 137 l0 (7, 9) := by first | assumption | omega) (r1 : -2147483648 ≤ h l0 8 ∧ h l0 8 < 2147483648 := by omega) (r2 : -2147483648 ≤ l5 ∧ l5 < 2147483648 := by omega) (kt : ¬ h l0 8 = l5 → Wp mX7_build (kR fr M1 M2) Q (b1, b2) 38 [zR l0, zR l1, zI l2, zI l3, zI l4, zI l5, none, none, none] [] 137 h) (kf : h l0 8 = l5 → Wp mX7_build (kR fr M1 M2) Q (b1, b2) 34 [zR l0, zR l1, zI l2, zI l3, zI l4, zI l5, none, none, none] [] 137 h) : Wp mX7_build (kR fr M1 M2) Q (b1, b2) 25 [zR l0, zR l1, zI l2, zI l3, zI l4, zI l5, x6, x7, x8] [] 137 h := by
  refine s_fgt (fgt_c (fgt_c (fgt_c (fgt_c (fgt_c (fgt_c (fgt_n _ (fgt_n _ (fgt_n _ fgt_0))))))))) ?_
  refine s_aload_n (x := l0) dX7_build_25 rfl ?_
  refine s_get (c := l0) dX7_build_26 lX7_35 c1 (by decide) ?_
  refine s_iload (x := l5) dX7_build_29 rfl ?_
  exact s_icmp_ne (tgt := 38) dX7_build_31 (by decide) r1 r2 kt kf
theorem bX7_build_34 {fr M1 M2 b1 b2 : Nat} {Q : RS → Nat → AH → Prop} {h : AH} {l0 l1 l2 l3 l4 l5 : Int} {x6 x7 x8 : AV}   (kk : Wp mX7_build (kR fr M1 M2) Q (b1, b2) 39 [zR l0, zR l1, zI l2, zI l3, zI l4, zI l5, none, none, none] [zI 1] 137 h) : Wp mX7_build (kR fr M1 M2) Q (b1, b2) 34 [zR l0, zR l1, zI l2, zI l3, zI l4, zI l5, x6, x7, x8] [] 137 h := by
  refine s_fgt (fgt_c (fgt_c (fgt_c (fgt_c (fgt_c (fgt_c (fgt_n _ (fgt_n _ (fgt_n _ fgt_0))))))))) ?_
  refine s_iconst dX7_build_34 ?_
  exact s_goto (tgt := 39) dX7_build_35 (by decide) kk
theorem bX7_build_38 {fr M1 M2 b1 b2 : Nat} {Q : RS → Nat → AH → Prop} {h : AH} {l0 l1 l2 l3 l4 l5 : Int} {x6 x7 x8 : AV}   (kk : Wp mX7_build (kR fr M1 M2) Q (b1, b2) 39 [zR l0, zR l1, zI l2, zI l3, zI l4, zI l5, none, none, none] [zI 0] 137 h) : Wp mX7_build (kR fr M1 M2) Q (b1, b2) 38 [zR l0, zR l1, zI l2, zI l3, zI l4, zI l5, x6, x7, x8] [] 137 h := by
  refine s_fgt (fgt_c (fgt_c (fgt_c (fgt_c (fgt_c (fgt_c (fgt_n _ (fgt_n _ (fgt_n _ fgt_0))))))))) ?_
  refine s_iconst dX7_build_38 ?_
  exact kk
theorem bX7_build_39 {fr M1 M2 b1 b2 : Nat} {Q : RS → Nat → AH → Prop} {h : AH} {l0 l1 l2 l3 l4 l5 s0 : Int} {x6 x7 x8 : AV} (c1 : cel 137 l0 (7, 9) := by first | assumption | omega) (r1 : -2147483648 ≤ h l0 4 ∧ h l0 4 < 2147483648 := by omega) (kt : h l0 4 = 0 → Wp mX7_build (kR fr M1 M2) Q (b1, b2) 54 [zR l0, zR l1, zI l2, zI l3, zI l4, zI l5, zI s0, none, none] [] 137 h) (kf : ¬ h l0 4 = 0 → Wp mX7_build (kR fr M1 M2) Q (b1, b2) 48 [zR l0, zR l1, zI l2, zI l3, zI l4, zI l5, zI s0, none, none] [] 137 h) : Wp mX7_build (kR fr M1 M2) Q (b1, b2) 39 [zR l0, zR l1, zI l2, zI l3, zI l4, zI l5, x6, x7, x8] [zI s0] 137 h := by
  refine s_fgt (fgt_c (fgt_c (fgt_c (fgt_c (fgt_c (fgt_c (fgt_n _ (fgt_n _ (fgt_n _ fgt_0))))))))) ?_
  refine s_istore dX7_build_39 rfl (by decide) ?_
  refine s_aload_n (x := l0) dX7_build_41 rfl ?_
  refine s_get (c := l0) dX7_build_42 lX7_21 c1 (by decide) ?_
  exact s_if_eq (tgt := 54) dX7_build_45 (by decide) r1 kt kf
theorem bX7_build_48 {fr M1 M2 b1 b2 : Nat} {Q : RS → Nat → AH → Prop} {h : AH} {l0 l1 l2 l3 l4 l5 l6 : Int} {x7 x8 : AV}  (r1 : -2147483648 ≤ l6 ∧ l6 < 2147483648 := by omega) (kt : l6 = 0 → Wp mX7_build (kR fr M1 M2) Q (b1, b2) 54 [zR l0, zR l1, zI l2, zI l3, zI l4, zI l5, zI l6, none, none] [] 137 h) (kf : ¬ l6 = 0 → Wp mX7_build (kR fr M1 M2) Q (b1, b2) 53 [zR l0, zR l1, zI l2, zI l3, zI l4, zI l5, zI l6, none, none] [] 137 h) : Wp mX7_build (kR fr M1 M2) Q (b1, b2) 48 [zR l0, zR l1, zI l2, zI l3, zI l4, zI l5, zI l6, x7, x8] [] 137 h := by
  refine s_fgt (fgt_c (fgt_c (fgt_c (fgt_c (fgt_c (fgt_c (fgt_c (fgt_n _ (fgt_n _ fgt_0))))))))) ?_
  refine s_iload (x := l6) dX7_build_48 rfl ?_
  exact s_if_eq (tgt := 54) dX7_build_50 (by decide) r1 kt kf
theorem bX7_build_53 {fr M1 M2 b1 b2 : Nat} {Q : RS → Nat → AH → Prop} {h : AH} {x0 x1 x2 x3 x4 x5 x6 x7 x8 : AV}   (hq : Q (.inl none) 137 h) : Wp mX7_build (kR fr M1 M2) Q (b1, b2) 53 [x0, x1, x2, x3, x4, x5, x6, x7, x8] [] 137 h := by
  refine s_fgt (fgt_n _ (fgt_n _ (fgt_n _ (fgt_n _ (fgt_n _ (fgt_n _ (fgt_n _ (fgt_n _ (fgt_n _ fgt_0))))))))) ?_
  exact s_return dX7_build_53 rfl hq (fun z => by cases z)
theorem bX7_build_54 {fr M1 M2 b1 b2 : Nat} {Q : RS → Nat → AH → Prop} {h : AH} {l0 l1 l2 l3 l4 l5 : Int} {x6 x7 x8 : AV} {R : Int → AH → Prop} (c1 : cel 137 l0 (7, 9) := by first | assumption | omega) (c2 : cel 137 l1 (2, 21) := by first | assumption | omega) (r1 : 0 ≤ l2 ∧ l2 < 3 := by omega) (hS : Sp mX7_place true (fr - 1) 0 0 [zR l0, zI ((up (up (up (up (up (up h l0 4 1) l0 5 l2) l0 6 l3) l0 7 l4) l0 8 l5) l0 2 0) (l1 + 8) l2)] 137 (up (up (up (up (up (up h l0 4 1) l0 5 l2) l0 6 l3) l0 7 l4) l0 8 l5) l0 2 0) (rI R)) (hf : 1 ≤ fr := by omega) (kk : ∀ (x : Int) (h' : AH), R x h' → Wp mX7_build (kR fr M1 M2) Q (b1, b2) 96 [zR l0, zR l1, zI l2, zI l3, zI l4, zI l5, none, none, none] [zI x] 137 h') : Wp mX7_build (kR fr M1 M2) Q (b1, b2) 54 [zR l0, zR l1, zI l2, zI l3, zI l4, zI l5, x6, x7, x8] [] 137 h := by
  refine s_fgt (fgt_c (fgt_c (fgt_c (fgt_c (fgt_c (fgt_c (fgt_n _ (fgt_n _ (fgt_n _ fgt_0))))))))) ?_
  refine s_aload_n (x := l0) dX7_build_54 rfl ?_
  refine s_iconst dX7_build_55 ?_
  refine s_putZ (c := l0) dX7_build_56 lX7_21 c1 (by decide) ?_
  refine s_aload_n (x := l0) dX7_build_59 rfl ?_
  refine s_iload_n (x := l2) dX7_build_60 rfl ?_
  refine s_put (c := l0) dX7_build_61 lX7_25 c1 ?_
  refine s_aload_n (x := l0) dX7_build_64 rfl ?_
  refine s_iload_n (x := l3) dX7_build_65 rfl ?_
  refine s_put (c := l0) dX7_build_66 lX7_29 c1 ?_
  refine s_aload_n (x := l0) dX7_build_69 rfl ?_
  refine s_iload (x := l4) dX7_build_70 rfl ?_
  refine s_put (c := l0) dX7_build_72 lX7_32 c1 ?_
  refine s_aload_n (x := l0) dX7_build_75 rfl ?_
  refine s_iload (x := l5) dX7_build_76 rfl ?_
  refine s_put (c := l0) dX7_build_78 lX7_35 c1 ?_
  refine s_aload_n (x := l0) dX7_build_81 rfl ?_
  refine s_iconst dX7_build_82 ?_
  refine s_put (c := l0) dX7_build_83 lX7_38 c1 ?_
  refine s_aload_n (x := l0) dX7_build_86 rfl ?_
  refine s_aload_n (x := l1) dX7_build_87 rfl ?_
  refine s_getFd (c := l1) (d := l1 + 8) dX7_build_88 lX7_41 c2 (Or.inl rfl) rfl (ne0 (fin_X2_14 c2)) ?_
  refine s_iload_n (x := l2) dX7_build_91 rfl ?_
  refine s_iald (c := l1 + 8) (i := l2) dX7_build_92 (fin_X2_14 c2) r1.1 r1.2 ?_
  exact s_callV (as := [zI ((up (up (up (up (up (up h l0 4 1) l0 5 l2) l0 6 l3) l0 7 l4) l0 8 l5) l0 2 0) (l1 + 8) l2)]) (st := []) (o := l0) dX7_build_93 kX7_46 rfl ⟨7, 9, TX7, c1, rfl, by decide⟩ rfl rfl (Nat.le_of_ble_eq_true rfl) hS (show fr - 1 + 1 ≤ fr by omega) (Nat.zero_le _) (Nat.zero_le _) (fun v n' h' hP _ => by obtain ⟨x, e, rfl, hR⟩ := hP; cases e; exact kk x h' hR) (fun E n' h' _ z => (rI_nt _ _ _ z).elim)
theorem bX7_build_96 {fr M1 M2 b1 b2 : Nat} {Q : RS → Nat → AH → Prop} {h : AH} {l0 l1 l5 s0 : Int} {x2 x3 x4 x6 x7 x8 : AV} (c1 : cel 137 l1 (2, 21) := by first | assumption | omega) (c2 : cel 137 l0 (7, 9) := by first | assumption | omega) (r1 : 1 ≤ fr := by omega) (r2 : 0 + h l1 0 ≤ 8 := by omega) (r3 : 0 ≤ s0 * 8 := by omega) (r4 : s0 * 8 + h l1 0 ≤ 152 := by omega) (r5 : 0 ≤ h l1 0 := by omega) (kk : Wp mX7_build (kR fr M1 M2) Q (b1, b2) 122 [zR l0, zR l1, none, none, none, zI l5, none, zI s0, zI 0] [] 137 (cpy h (l1 + 1) 0 (l0 + 2) (s0 * 8) (h l1 0))) : Wp mX7_build (kR fr M1 M2) Q (b1, b2) 96 [zR l0, zR l1, x2, x3, x4, zI l5, x6, x7, x8] [zI s0] 137 h := by
  refine s_fgt (fgt_c (fgt_c (fgt_n _ (fgt_n _ (fgt_n _ (fgt_c (fgt_n _ (fgt_n _ (fgt_n _ fgt_0))))))))) ?_
  refine s_istore dX7_build_96 rfl (by decide) ?_
  refine s_aload_n (x := l1) dX7_build_98 rfl ?_
  refine s_getFd (c := l1) (d := l1 + 1) dX7_build_99 lX7_50 c1 (Or.inl rfl) rfl (ne0 (fin_X2_7 c1)) ?_
  refine s_iconst dX7_build_102 ?_
  refine s_aload_n (x := l0) dX7_build_103 rfl ?_
  refine s_getFd (c := l0) (d := l0 + 2) dX7_build_104 lX7_15 c2 (Or.inl rfl) rfl (ne0 (fin_X7_1 c2)) ?_
  refine s_iload (x := s0) dX7_build_107 rfl ?_
  refine s_bipush dX7_build_109 (by decide) ?_
  refine s_imul dX7_build_111 ?_
  refine s_aload_n (x := l1) dX7_build_112 rfl ?_
  refine s_get (c := l1) dX7_build_113 lX7_51 c1 (by decide) ?_
  refine s_copy dX7_build_116 wd935 wd624 wd623 wd25 r1 (Nat.le_of_ble_eq_true rfl) (fin_X2_7 c1) (fin_X7_1 c2) (by decide) r2 r3 r4 r5  ?_
  refine s_iconst dX7_build_119 ?_
  refine s_istore dX7_build_120 rfl (by decide) ?_
  exact kk
theorem bX7_build_122 {fr M1 M2 b1 b2 : Nat} {Q : RS → Nat → AH → Prop} {h : AH} {l0 l1 l5 l8 : Int} {x2 x3 x4 x6 x7 : AV} (c1 : cel 137 l1 (2, 21) := by first | assumption | omega) (r1 : -2147483648 ≤ l8 ∧ l8 < 2147483648 := by omega) (r2 : -2147483648 ≤ h l1 1 ∧ h l1 1 < 2147483648 := by omega) (kt : h l1 1 ≤ l8 → Wp mX7_build (kR fr M1 M2) Q (b1, b2) 151 [zR l0, zR l1, none, none, none, zI l5, none, none, zI l8] [] 137 h) (kf : l8 < h l1 1 → Wp mX7_build (kR fr M1 M2) Q (b1, b2) 131 [zR l0, zR l1, none, none, none, zI l5, none, none, zI l8] [] 137 h) : Wp mX7_build (kR fr M1 M2) Q (b1, b2) 122 [zR l0, zR l1, x2, x3, x4, zI l5, x6, x7, zI l8] [] 137 h := by
  refine s_fgt (fgt_c (fgt_c (fgt_n _ (fgt_n _ (fgt_n _ (fgt_c (fgt_n _ (fgt_n _ (fgt_c fgt_0))))))))) ?_
  refine s_iload (x := l8) dX7_build_122 rfl ?_
  refine s_aload_n (x := l1) dX7_build_124 rfl ?_
  refine s_get (c := l1) dX7_build_125 lX7_60 c1 (by decide) ?_
  exact s_icmp_ge (tgt := 151) dX7_build_128 (by decide) r1 r2 kt kf
theorem bX7_build_131 {fr M1 M2 b1 b2 : Nat} {Q : RS → Nat → AH → Prop} {h : AH} {l0 l1 l5 l8 : Int} {x2 x3 x4 x6 x7 : AV}  (r1 : -2147483648 ≤ l8 ∧ l8 < 2147483648 := by omega) (r2 : -2147483648 ≤ l5 ∧ l5 < 2147483648 := by omega) (kt : l8 = l5 → Wp mX7_build (kR fr M1 M2) Q (b1, b2) 145 [zR l0, zR l1, none, none, none, zI l5, none, none, zI l8] [] 137 h) (kf : ¬ l8 = l5 → Wp mX7_build (kR fr M1 M2) Q (b1, b2) 138 [zR l0, zR l1, none, none, none, zI l5, none, none, zI l8] [] 137 h) : Wp mX7_build (kR fr M1 M2) Q (b1, b2) 131 [zR l0, zR l1, x2, x3, x4, zI l5, x6, x7, zI l8] [] 137 h := by
  refine s_fgt (fgt_c (fgt_c (fgt_n _ (fgt_n _ (fgt_n _ (fgt_c (fgt_n _ (fgt_n _ (fgt_c fgt_0))))))))) ?_
  refine s_iload (x := l8) dX7_build_131 rfl ?_
  refine s_iload (x := l5) dX7_build_133 rfl ?_
  exact s_icmp_eq (tgt := 145) dX7_build_135 (by decide) r1 r2 kt kf
theorem bX7_build_138 {fr M1 M2 b1 b2 : Nat} {Q : RS → Nat → AH → Prop} {h : AH} {l0 l1 l5 l8 : Int} {x2 x3 x4 x6 x7 : AV} {R : AH → Prop} (c1 : cel 137 l0 (7, 9) := by first | assumption | omega)  (hS : Sp mX7_addWall true (fr - 1) 0 0 [zR l0, zR l1, zI l8] 137 h (rV R)) (hf : 1 ≤ fr := by omega) (kk : ∀ h' : AH, R h' → Wp mX7_build (kR fr M1 M2) Q (b1, b2) 145 [zR l0, zR l1, none, none, none, zI l5, none, none, zI l8] [] 137 h') : Wp mX7_build (kR fr M1 M2) Q (b1, b2) 138 [zR l0, zR l1, x2, x3, x4, zI l5, x6, x7, zI l8] [] 137 h := by
  refine s_fgt (fgt_c (fgt_c (fgt_n _ (fgt_n _ (fgt_n _ (fgt_c (fgt_n _ (fgt_n _ (fgt_c fgt_0))))))))) ?_
  refine s_aload_n (x := l0) dX7_build_138 rfl ?_
  refine s_aload_n (x := l1) dX7_build_139 rfl ?_
  refine s_iload (x := l8) dX7_build_140 rfl ?_
  exact s_callV (as := [zR l1, zI l8]) (st := []) (o := l0) dX7_build_142 kX7_63 rfl ⟨7, 9, TX7, c1, rfl, by decide⟩ rfl rfl (Nat.le_of_ble_eq_true rfl) hS (show fr - 1 + 1 ≤ fr by omega) (Nat.zero_le _) (Nat.zero_le _) (fun v n' h' hP _ => by obtain ⟨e, rfl, hR⟩ := hP; cases e; exact kk h' hR) (fun E n' h' _ z => (rV_nt _ _ _ z).elim)
theorem bX7_build_145 {fr M1 M2 b1 b2 : Nat} {Q : RS → Nat → AH → Prop} {h : AH} {l0 l1 l5 l8 : Int} {x2 x3 x4 x6 x7 : AV}   (kk : Wp mX7_build (kR fr M1 M2) Q (b1, b2) 122 [zR l0, zR l1, none, none, none, zI l5, none, none, zI (l8 + 1)] [] 137 h) : Wp mX7_build (kR fr M1 M2) Q (b1, b2) 145 [zR l0, zR l1, x2, x3, x4, zI l5, x6, x7, zI l8] [] 137 h := by
  refine s_fgt (fgt_c (fgt_c (fgt_n _ (fgt_n _ (fgt_n _ (fgt_c (fgt_n _ (fgt_n _ (fgt_c fgt_0))))))))) ?_
  refine s_iinc (x := l8) dX7_build_145 rfl rfl (by decide) ?_
  exact s_goto (tgt := 122) dX7_build_148 (by decide) kk
theorem bX7_build_151 {fr M1 M2 b1 b2 : Nat} {Q : RS → Nat → AH → Prop} {h : AH} {x0 x1 x2 x3 x4 x5 x6 x7 x8 : AV}   (hq : Q (.inl none) 137 h) : Wp mX7_build (kR fr M1 M2) Q (b1, b2) 151 [x0, x1, x2, x3, x4, x5, x6, x7, x8] [] 137 h := by
  refine s_fgt (fgt_n _ (fgt_n _ (fgt_n _ (fgt_n _ (fgt_n _ (fgt_n _ (fgt_n _ (fgt_n _ (fgt_n _ fgt_0))))))))) ?_
  exact s_return dX7_build_151 rfl hq (fun z => by cases z)
theorem dX7_addWall_0 : decode mX7_addWall.cd 0 = .ok (.aload_n 1, 1) := by decide +kernel
theorem dX7_addWall_1 : decode mX7_addWall.cd 1 = .ok (.iload_n 2, 1) := by decide +kernel
theorem dX7_addWall_2 : decode mX7_addWall.cd 2 = .ok (.aload_n 0, 1) := by decide +kernel
theorem dX7_addWall_3 : decode mX7_addWall.cd 3 = .ok (.getfield 32, 3) := by decide +kernel
theorem dX7_addWall_6 : decode mX7_addWall.cd 6 = .ok (.invokevirtual 67, 3) := by decide +kernel
theorem dX7_addWall_9 : decode mX7_addWall.cd 9 = .ok (.istore_n 3, 1) := by decide +kernel
theorem dX7_addWall_10 : decode mX7_addWall.cd 10 = .ok (.aload_n 1, 1) := by decide +kernel
theorem dX7_addWall_11 : decode mX7_addWall.cd 11 = .ok (.getfield 71, 3) := by decide +kernel
theorem dX7_addWall_14 : decode mX7_addWall.cd 14 = .ok (.iload_n 2, 1) := by decide +kernel
theorem dX7_addWall_15 : decode mX7_addWall.cd 15 = .ok (.iconst 3, 1) := by decide +kernel
theorem dX7_addWall_16 : decode mX7_addWall.cd 16 = .ok (.imul, 1) := by decide +kernel
theorem dX7_addWall_17 : decode mX7_addWall.cd 17 = .ok (.aload_n 0, 1) := by decide +kernel
theorem dX7_addWall_18 : decode mX7_addWall.cd 18 = .ok (.getfield 25, 3) := by decide +kernel
theorem dX7_addWall_21 : decode mX7_addWall.cd 21 = .ok (.iadd, 1) := by decide +kernel
theorem dX7_addWall_22 : decode mX7_addWall.cd 22 = .ok (.iaload, 1) := by decide +kernel
theorem dX7_addWall_23 : decode mX7_addWall.cd 23 = .ok (.istore 4, 2) := by decide +kernel
theorem dX7_addWall_25 : decode mX7_addWall.cd 25 = .ok (.aload_n 1, 1) := by decide +kernel
theorem dX7_addWall_26 : decode mX7_addWall.cd 26 = .ok (.getfield 50, 3) := by decide +kernel
theorem dX7_addWall_29 : decode mX7_addWall.cd 29 = .ok (.iconst 0, 1) := by decide +kernel
theorem dX7_addWall_30 : decode mX7_addWall.cd 30 = .ok (.aload_n 0, 1) := by decide +kernel
theorem dX7_addWall_31 : decode mX7_addWall.cd 31 = .ok (.getfield 18, 3) := by decide +kernel
theorem dX7_addWall_34 : decode mX7_addWall.cd 34 = .ok (.iconst 0, 1) := by decide +kernel
theorem dX7_addWall_35 : decode mX7_addWall.cd 35 = .ok (.aload_n 1, 1) := by decide +kernel
theorem dX7_addWall_36 : decode mX7_addWall.cd 36 = .ok (.getfield 51, 3) := by decide +kernel
theorem dX7_addWall_39 : decode mX7_addWall.cd 39 = .ok (.invokestatic 54, 3) := by decide +kernel
theorem dX7_addWall_42 : decode mX7_addWall.cd 42 = .ok (.iconst 1, 1) := by decide +kernel
theorem dX7_addWall_43 : decode mX7_addWall.cd 43 = .ok (.istore 5, 2) := by decide +kernel
theorem dX7_addWall_45 : decode mX7_addWall.cd 45 = .ok (.iload 5, 2) := by decide +kernel
theorem dX7_addWall_47 : decode mX7_addWall.cd 47 = .ok (.aload_n 1, 1) := by decide +kernel
theorem dX7_addWall_48 : decode mX7_addWall.cd 48 = .ok (.getfield 74, 3) := by decide +kernel
theorem dX7_addWall_51 : decode mX7_addWall.cd 51 = .ok (.iload_n 2, 1) := by decide +kernel
theorem dX7_addWall_52 : decode mX7_addWall.cd 52 = .ok (.iaload, 1) := by decide +kernel
theorem dX7_addWall_53 : decode mX7_addWall.cd 53 = .ok (.if_icmp .gt 98, 3) := by decide +kernel
theorem dX7_addWall_56 : decode mX7_addWall.cd 56 = .ok (.aload_n 0, 1) := by decide +kernel
theorem dX7_addWall_57 : decode mX7_addWall.cd 57 = .ok (.iload 5, 2) := by decide +kernel
theorem dX7_addWall_59 : decode mX7_addWall.cd 59 = .ok (.iload 4, 2) := by decide +kernel
theorem dX7_addWall_61 : decode mX7_addWall.cd 61 = .ok (.imul, 1) := by decide +kernel
theorem dX7_addWall_62 : decode mX7_addWall.cd 62 = .ok (.invokevirtual 46, 3) := by decide +kernel
theorem dX7_addWall_65 : decode mX7_addWall.cd 65 = .ok (.istore 6, 2) := by decide +kernel
theorem dX7_addWall_67 : decode mX7_addWall.cd 67 = .ok (.iconst 0, 1) := by decide +kernel
theorem dX7_addWall_68 : decode mX7_addWall.cd 68 = .ok (.istore 7, 2) := by decide +kernel
theorem dX7_addWall_70 : decode mX7_addWall.cd 70 = .ok (.iload 7, 2) := by decide +kernel
theorem dX7_addWall_72 : decode mX7_addWall.cd 72 = .ok (.aload_n 1, 1) := by decide +kernel
theorem dX7_addWall_73 : decode mX7_addWall.cd 73 = .ok (.getfield 51, 3) := by decide +kernel
theorem dX7_addWall_76 : decode mX7_addWall.cd 76 = .ok (.if_icmp .ge 69, 3) := by decide +kernel
theorem dX7_addWall_79 : decode mX7_addWall.cd 79 = .ok (.aload_n 0, 1) := by decide +kernel
theorem dX7_addWall_80 : decode mX7_addWall.cd 80 = .ok (.getfield 18, 3) := by decide +kernel
theorem dX7_addWall_83 : decode mX7_addWall.cd 83 = .ok (.iload 7, 2) := by decide +kernel
theorem dX7_addWall_85 : decode mX7_addWall.cd 85 = .ok (.aload_n 0, 1) := by decide +kernel
theorem dX7_addWall_86 : decode mX7_addWall.cd 86 = .ok (.getfield 18, 3) := by decide +kernel
theorem dX7_addWall_89 : decode mX7_addWall.cd 89 = .ok (.iload 7, 2) := by decide +kernel
theorem dX7_addWall_91 : decode mX7_addWall.cd 91 = .ok (.iaload, 1) := by decide +kernel
theorem dX7_addWall_92 : decode mX7_addWall.cd 92 = .ok (.iload_n 3, 1) := by decide +kernel
theorem dX7_addWall_93 : decode mX7_addWall.cd 93 = .ok (.imul, 1) := by decide +kernel
theorem dX7_addWall_94 : decode mX7_addWall.cd 94 = .ok (.bipush 100, 2) := by decide +kernel
theorem dX7_addWall_96 : decode mX7_addWall.cd 96 = .ok (.idiv, 1) := by decide +kernel
theorem dX7_addWall_97 : decode mX7_addWall.cd 97 = .ok (.iastore, 1) := by decide +kernel
theorem dX7_addWall_98 : decode mX7_addWall.cd 98 = .ok (.aload_n 1, 1) := by decide +kernel
theorem dX7_addWall_99 : decode mX7_addWall.cd 99 = .ok (.iload_n 2, 1) := by decide +kernel
theorem dX7_addWall_100 : decode mX7_addWall.cd 100 = .ok (.iload 7, 2) := by decide +kernel
theorem dX7_addWall_102 : decode mX7_addWall.cd 102 = .ok (.invokevirtual 77, 3) := by decide +kernel
theorem dX7_addWall_105 : decode mX7_addWall.cd 105 = .ok (.ifCond .ne 34, 3) := by decide +kernel
theorem dX7_addWall_108 : decode mX7_addWall.cd 108 = .ok (.aload_n 0, 1) := by decide +kernel
theorem dX7_addWall_109 : decode mX7_addWall.cd 109 = .ok (.getfield 15, 3) := by decide +kernel
theorem dX7_addWall_112 : decode mX7_addWall.cd 112 = .ok (.iload 6, 2) := by decide +kernel
theorem dX7_addWall_114 : decode mX7_addWall.cd 114 = .ok (.bipush 8, 2) := by decide +kernel
theorem dX7_addWall_116 : decode mX7_addWall.cd 116 = .ok (.imul, 1) := by decide +kernel
theorem dX7_addWall_117 : decode mX7_addWall.cd 117 = .ok (.iload 7, 2) := by decide +kernel
theorem dX7_addWall_119 : decode mX7_addWall.cd 119 = .ok (.iadd, 1) := by decide +kernel
theorem dX7_addWall_120 : decode mX7_addWall.cd 120 = .ok (.dup2, 1) := by decide +kernel
theorem dX7_addWall_121 : decode mX7_addWall.cd 121 = .ok (.iaload, 1) := by decide +kernel
theorem dX7_addWall_122 : decode mX7_addWall.cd 122 = .ok (.aload_n 0, 1) := by decide +kernel
theorem dX7_addWall_123 : decode mX7_addWall.cd 123 = .ok (.getfield 18, 3) := by decide +kernel
theorem dX7_addWall_126 : decode mX7_addWall.cd 126 = .ok (.iload 7, 2) := by decide +kernel
theorem dX7_addWall_128 : decode mX7_addWall.cd 128 = .ok (.iaload, 1) := by decide +kernel
theorem dX7_addWall_129 : decode mX7_addWall.cd 129 = .ok (.aload_n 0, 1) := by decide +kernel
theorem dX7_addWall_130 : decode mX7_addWall.cd 130 = .ok (.getfield 29, 3) := by decide +kernel
theorem dX7_addWall_133 : decode mX7_addWall.cd 133 = .ok (.imul, 1) := by decide +kernel
theorem dX7_addWall_134 : decode mX7_addWall.cd 134 = .ok (.bipush 100, 2) := by decide +kernel
theorem dX7_addWall_136 : decode mX7_addWall.cd 136 = .ok (.idiv, 1) := by decide +kernel
theorem dX7_addWall_137 : decode mX7_addWall.cd 137 = .ok (.iadd, 1) := by decide +kernel
theorem dX7_addWall_138 : decode mX7_addWall.cd 138 = .ok (.iastore, 1) := by decide +kernel
theorem dX7_addWall_139 : decode mX7_addWall.cd 139 = .ok (.iinc 7 1, 3) := by decide +kernel
theorem dX7_addWall_142 : decode mX7_addWall.cd 142 = .ok (.goto (-72), 3) := by decide +kernel
theorem dX7_addWall_145 : decode mX7_addWall.cd 145 = .ok (.iinc 5 1, 3) := by decide +kernel
theorem dX7_addWall_148 : decode mX7_addWall.cd 148 = .ok (.goto (-103), 3) := by decide +kernel
theorem dX7_addWall_151 : decode mX7_addWall.cd 151 = .ok (.return_, 1) := by decide +kernel
theorem bX7_addWall_0 {fr M1 M2 b1 b2 : Nat} {Q : RS → Nat → AH → Prop} {h : AH} {l0 l1 l2 : Int} {x3 x4 x5 x6 x7 : AV} {R : Int → AH → Prop} (c1 : cel 137 l0 (7, 9) := by first | assumption | omega) (c2 : cel 137 l1 (2, 21) := by first | assumption | omega)  (hS : Sp mX2_foggedShare true (fr - 1) 0 0 [zR l1, zI l2, zI (h l0 7)] 137 h (rI R)) (hf : 1 ≤ fr := by omega) (kk : ∀ (x : Int) (h' : AH), R x h' → Wp mX7_addWall (kR fr M1 M2) Q (b1, b2) 9 [zR l0, zR l1, zI l2, none, none, none, none, none] [zI x] 137 h') : Wp mX7_addWall (kR fr M1 M2) Q (b1, b2) 0 [zR l0, zR l1, zI l2, x3, x4, x5, x6, x7] [] 137 h := by
  refine s_fgt (fgt_c (fgt_c (fgt_c (fgt_n _ (fgt_n _ (fgt_n _ (fgt_n _ (fgt_n _ fgt_0)))))))) ?_
  refine s_aload_n (x := l1) dX7_addWall_0 rfl ?_
  refine s_iload_n (x := l2) dX7_addWall_1 rfl ?_
  refine s_aload_n (x := l0) dX7_addWall_2 rfl ?_
  refine s_get (c := l0) dX7_addWall_3 lX7_32 c1 (by decide) ?_
  exact s_callV (as := [zI l2, zI (h l0 7)]) (st := []) (o := l1) dX7_addWall_6 kX7_67 rfl ⟨2, 21, TX2, c2, rfl, by decide⟩ rfl rfl (Nat.le_of_ble_eq_true rfl) hS (show fr - 1 + 1 ≤ fr by omega) (Nat.zero_le _) (Nat.zero_le _) (fun v n' h' hP _ => by obtain ⟨x, e, rfl, hR⟩ := hP; cases e; exact kk x h' hR) (fun E n' h' _ z => (rI_nt _ _ _ z).elim)
theorem bX7_addWall_9 {fr M1 M2 b1 b2 : Nat} {Q : RS → Nat → AH → Prop} {h : AH} {l0 l1 l2 s0 : Int} {x3 x4 x5 x6 x7 : AV} (c1 : cel 137 l1 (2, 21) := by first | assumption | omega) (c2 : cel 137 l0 (7, 9) := by first | assumption | omega) (r1 : 0 ≤ (l2 * 3) + (h l0 5) ∧ (l2 * 3) + (h l0 5) < 18 := by omega) (r2 : 1 ≤ fr := by omega) (r3 : 0 + h l1 0 ≤ 8 := by omega) (r4 : 0 ≤ h l1 0 := by omega) (kk : Wp mX7_addWall (kR fr M1 M2) Q (b1, b2) 45 [zR l0, zR l1, zI l2, zI s0, zI (h (l1 + 4) ((l2 * 3) + (h l0 5))), zI 1, none, none] [] 137 (cpy h (l1 + 1) 0 (l0 + 3) 0 (h l1 0))) : Wp mX7_addWall (kR fr M1 M2) Q (b1, b2) 9 [zR l0, zR l1, zI l2, x3, x4, x5, x6, x7] [zI s0] 137 h := by
  refine s_fgt (fgt_c (fgt_c (fgt_c (fgt_n _ (fgt_n _ (fgt_n _ (fgt_n _ (fgt_n _ fgt_0)))))))) ?_
  refine s_istore_n dX7_addWall_9 rfl (by decide) ?_
  refine s_aload_n (x := l1) dX7_addWall_10 rfl ?_
  refine s_getFd (c := l1) (d := l1 + 4) dX7_addWall_11 lX7_71 c1 (Or.inl rfl) rfl (ne0 (fin_X2_10 c1)) ?_
  refine s_iload_n (x := l2) dX7_addWall_14 rfl ?_
  refine s_iconst dX7_addWall_15 ?_
  refine s_imul dX7_addWall_16 ?_
  refine s_aload_n (x := l0) dX7_addWall_17 rfl ?_
  refine s_get (c := l0) dX7_addWall_18 lX7_25 c2 (by decide) ?_
  refine s_iadd dX7_addWall_21 ?_
  refine s_iald (c := l1 + 4) (i := (l2 * 3) + (h l0 5)) dX7_addWall_22 (fin_X2_10 c1) r1.1 r1.2 ?_
  refine s_istore dX7_addWall_23 rfl (by decide) ?_
  refine s_aload_n (x := l1) dX7_addWall_25 rfl ?_
  refine s_getFd (c := l1) (d := l1 + 1) dX7_addWall_26 lX7_50 c1 (Or.inl rfl) rfl (ne0 (fin_X2_7 c1)) ?_
  refine s_iconst dX7_addWall_29 ?_
  refine s_aload_n (x := l0) dX7_addWall_30 rfl ?_
  refine s_getFd (c := l0) (d := l0 + 3) dX7_addWall_31 lX7_18 c2 (Or.inl rfl) rfl (ne0 (fin_X7_3 c2)) ?_
  refine s_iconst dX7_addWall_34 ?_
  refine s_aload_n (x := l1) dX7_addWall_35 rfl ?_
  refine s_get (c := l1) dX7_addWall_36 lX7_51 c1 (by decide) ?_
  refine s_copy dX7_addWall_39 wd935 wd624 wd623 wd25 r2 (Nat.le_of_ble_eq_true rfl) (fin_X2_7 c1) (fin_X7_3 c2) (by decide) r3 (by decide) r3 r4  ?_
  refine s_iconst dX7_addWall_42 ?_
  refine s_istore dX7_addWall_43 rfl (by decide) ?_
  exact kk
theorem bX7_addWall_45 {fr M1 M2 b1 b2 : Nat} {Q : RS → Nat → AH → Prop} {h : AH} {l0 l1 l2 l3 l4 l5 : Int} {x6 x7 : AV} (c1 : cel 137 l1 (2, 21) := by first | assumption | omega) (r1 : 0 ≤ l2 ∧ l2 < 6 := by omega) (r2 : -2147483648 ≤ l5 ∧ l5 < 2147483648 := by omega) (r3 : -2147483648 ≤ h (l1 + 7) l2 ∧ h (l1 + 7) l2 < 2147483648 := by omega) (kt : h (l1 + 7) l2 < l5 → Wp mX7_addWall (kR fr M1 M2) Q (b1, b2) 151 [zR l0, zR l1, zI l2, zI l3, zI l4, zI l5, none, none] [] 137 h) (kf : l5 ≤ h (l1 + 7) l2 → Wp mX7_addWall (kR fr M1 M2) Q (b1, b2) 56 [zR l0, zR l1, zI l2, zI l3, zI l4, zI l5, none, none] [] 137 h) : Wp mX7_addWall (kR fr M1 M2) Q (b1, b2) 45 [zR l0, zR l1, zI l2, zI l3, zI l4, zI l5, x6, x7] [] 137 h := by
  refine s_fgt (fgt_c (fgt_c (fgt_c (fgt_c (fgt_c (fgt_c (fgt_n _ (fgt_n _ fgt_0)))))))) ?_
  refine s_iload (x := l5) dX7_addWall_45 rfl ?_
  refine s_aload_n (x := l1) dX7_addWall_47 rfl ?_
  refine s_getFd (c := l1) (d := l1 + 7) dX7_addWall_48 lX7_74 c1 (Or.inl rfl) rfl (ne0 (fin_X2_13 c1)) ?_
  refine s_iload_n (x := l2) dX7_addWall_51 rfl ?_
  refine s_iald (c := l1 + 7) (i := l2) dX7_addWall_52 (fin_X2_13 c1) r1.1 r1.2 ?_
  exact s_icmp_gt (tgt := 151) dX7_addWall_53 (by decide) r2 r3 kt kf
theorem bX7_addWall_56 {fr M1 M2 b1 b2 : Nat} {Q : RS → Nat → AH → Prop} {h : AH} {l0 l1 l2 l3 l4 l5 : Int} {x6 x7 : AV} {R : Int → AH → Prop} (c1 : cel 137 l0 (7, 9) := by first | assumption | omega)  (hS : Sp mX7_place true (fr - 1) 0 0 [zR l0, zI (l5 * l4)] 137 h (rI R)) (hf : 1 ≤ fr := by omega) (kk : ∀ (x : Int) (h' : AH), R x h' → Wp mX7_addWall (kR fr M1 M2) Q (b1, b2) 65 [zR l0, zR l1, zI l2, zI l3, zI l4, zI l5, none, none] [zI x] 137 h') : Wp mX7_addWall (kR fr M1 M2) Q (b1, b2) 56 [zR l0, zR l1, zI l2, zI l3, zI l4, zI l5, x6, x7] [] 137 h := by
  refine s_fgt (fgt_c (fgt_c (fgt_c (fgt_c (fgt_c (fgt_c (fgt_n _ (fgt_n _ fgt_0)))))))) ?_
  refine s_aload_n (x := l0) dX7_addWall_56 rfl ?_
  refine s_iload (x := l5) dX7_addWall_57 rfl ?_
  refine s_iload (x := l4) dX7_addWall_59 rfl ?_
  refine s_imul dX7_addWall_61 ?_
  exact s_callV (as := [zI (l5 * l4)]) (st := []) (o := l0) dX7_addWall_62 kX7_46 rfl ⟨7, 9, TX7, c1, rfl, by decide⟩ rfl rfl (Nat.le_of_ble_eq_true rfl) hS (show fr - 1 + 1 ≤ fr by omega) (Nat.zero_le _) (Nat.zero_le _) (fun v n' h' hP _ => by obtain ⟨x, e, rfl, hR⟩ := hP; cases e; exact kk x h' hR) (fun E n' h' _ z => (rI_nt _ _ _ z).elim)
theorem bX7_addWall_65 {fr M1 M2 b1 b2 : Nat} {Q : RS → Nat → AH → Prop} {h : AH} {l0 l1 l2 l3 l4 l5 s0 : Int} {x6 x7 : AV}   (kk : Wp mX7_addWall (kR fr M1 M2) Q (b1, b2) 70 [zR l0, zR l1, zI l2, zI l3, zI l4, zI l5, zI s0, zI 0] [] 137 h) : Wp mX7_addWall (kR fr M1 M2) Q (b1, b2) 65 [zR l0, zR l1, zI l2, zI l3, zI l4, zI l5, x6, x7] [zI s0] 137 h := by
  refine s_fgt (fgt_c (fgt_c (fgt_c (fgt_c (fgt_c (fgt_c (fgt_n _ (fgt_n _ fgt_0)))))))) ?_
  refine s_istore dX7_addWall_65 rfl (by decide) ?_
  refine s_iconst dX7_addWall_67 ?_
  refine s_istore dX7_addWall_68 rfl (by decide) ?_
  exact kk
theorem bX7_addWall_70 {fr M1 M2 b1 b2 : Nat} {Q : RS → Nat → AH → Prop} {h : AH} {l0 l1 l2 l3 l4 l5 l6 l7 : Int} (c1 : cel 137 l1 (2, 21) := by first | assumption | omega) (r1 : -2147483648 ≤ l7 ∧ l7 < 2147483648 := by omega) (r2 : -2147483648 ≤ h l1 0 ∧ h l1 0 < 2147483648 := by omega) (kt : h l1 0 ≤ l7 → Wp mX7_addWall (kR fr M1 M2) Q (b1, b2) 145 [zR l0, zR l1, zI l2, zI l3, zI l4, zI l5, zI l6, zI l7] [] 137 h) (kf : l7 < h l1 0 → Wp mX7_addWall (kR fr M1 M2) Q (b1, b2) 79 [zR l0, zR l1, zI l2, zI l3, zI l4, zI l5, zI l6, zI l7] [] 137 h) : Wp mX7_addWall (kR fr M1 M2) Q (b1, b2) 70 [zR l0, zR l1, zI l2, zI l3, zI l4, zI l5, zI l6, zI l7] [] 137 h := by
  refine s_iload (x := l7) dX7_addWall_70 rfl ?_
  refine s_aload_n (x := l1) dX7_addWall_72 rfl ?_
  refine s_get (c := l1) dX7_addWall_73 lX7_51 c1 (by decide) ?_
  exact s_icmp_ge (tgt := 145) dX7_addWall_76 (by decide) r1 r2 kt kf
theorem bX7_addWall_79 {fr M1 M2 b1 b2 : Nat} {Q : RS → Nat → AH → Prop} {h : AH} {l0 l1 l2 l3 l4 l5 l6 l7 : Int} {R : Int → AH → Prop} (c1 : cel 137 l0 (7, 9) := by first | assumption | omega) (c2 : cel 137 l1 (2, 21) := by first | assumption | omega) (r1 : 0 ≤ l7 ∧ l7 < 8 := by omega) (r2 : 0 ≤ (h (l0 + 3) l7) * l3 ∧ (h (l0 + 3) l7) * l3 < 2147483648 := by omega) (hS : Sp mX2_swallowsSound true (fr - 1) 0 0 [zR l1, zI l2, zI l7] 137 (up h (l0 + 3) l7 (((h (l0 + 3) l7) * l3) / 100)) (rI R)) (hf : 1 ≤ fr := by omega) (kk : ∀ (x : Int) (h' : AH), R x h' → Wp mX7_addWall (kR fr M1 M2) Q (b1, b2) 105 [zR l0, zR l1, zI l2, zI l3, zI l4, zI l5, zI l6, zI l7] [zI x] 137 h') : Wp mX7_addWall (kR fr M1 M2) Q (b1, b2) 79 [zR l0, zR l1, zI l2, zI l3, zI l4, zI l5, zI l6, zI l7] [] 137 h := by
  refine s_aload_n (x := l0) dX7_addWall_79 rfl ?_
  refine s_getFd (c := l0) (d := l0 + 3) dX7_addWall_80 lX7_18 c1 (Or.inl rfl) rfl (ne0 (fin_X7_3 c1)) ?_
  refine s_iload (x := l7) dX7_addWall_83 rfl ?_
  refine s_aload_n (x := l0) dX7_addWall_85 rfl ?_
  refine s_getFd (c := l0) (d := l0 + 3) dX7_addWall_86 lX7_18 c1 (Or.inl rfl) rfl (ne0 (fin_X7_3 c1)) ?_
  refine s_iload (x := l7) dX7_addWall_89 rfl ?_
  refine s_iald (c := l0 + 3) (i := l7) dX7_addWall_91 (fin_X7_3 c1) r1.1 r1.2 ?_
  refine s_iload_n (x := l3) dX7_addWall_92 rfl ?_
  refine s_imul dX7_addWall_93 ?_
  refine s_bipush dX7_addWall_94 (by decide) ?_
  refine s_idivN dX7_addWall_96 r2.1 r2.2 (by decide) (by decide) ?_
  refine s_iast (c := l0 + 3) (i := l7) dX7_addWall_97 (fin_X7_3 c1) r1.1 r1.2 ?_
  refine s_aload_n (x := l1) dX7_addWall_98 rfl ?_
  refine s_iload_n (x := l2) dX7_addWall_99 rfl ?_
  refine s_iload (x := l7) dX7_addWall_100 rfl ?_
  exact s_callV (as := [zI l2, zI l7]) (st := []) (o := l1) dX7_addWall_102 kX7_77 rfl ⟨2, 21, TX2, c2, rfl, by decide⟩ rfl rfl (Nat.le_of_ble_eq_true rfl) hS (show fr - 1 + 1 ≤ fr by omega) (Nat.zero_le _) (Nat.zero_le _) (fun v n' h' hP _ => by obtain ⟨x, e, rfl, hR⟩ := hP; cases e; exact kk x h' hR) (fun E n' h' _ z => (rI_nt _ _ _ z).elim)
theorem bX7_addWall_105 {fr M1 M2 b1 b2 : Nat} {Q : RS → Nat → AH → Prop} {h : AH} {l0 l1 l2 l3 l4 l5 l6 l7 s0 : Int}  (r1 : -2147483648 ≤ s0 ∧ s0 < 2147483648 := by omega) (kt : ¬ s0 = 0 → Wp mX7_addWall (kR fr M1 M2) Q (b1, b2) 139 [zR l0, zR l1, zI l2, zI l3, zI l4, zI l5, zI l6, zI l7] [] 137 h) (kf : s0 = 0 → Wp mX7_addWall (kR fr M1 M2) Q (b1, b2) 108 [zR l0, zR l1, zI l2, zI l3, zI l4, zI l5, zI l6, zI l7] [] 137 h) : Wp mX7_addWall (kR fr M1 M2) Q (b1, b2) 105 [zR l0, zR l1, zI l2, zI l3, zI l4, zI l5, zI l6, zI l7] [zI s0] 137 h := by
  exact s_if_ne (tgt := 139) dX7_addWall_105 (by decide) r1 kt kf
theorem bX7_addWall_108 {fr M1 M2 b1 b2 : Nat} {Q : RS → Nat → AH → Prop} {h : AH} {l0 l1 l2 l3 l4 l5 l6 l7 : Int} (c1 : cel 137 l0 (7, 9) := by first | assumption | omega) (r1 : 0 ≤ (l6 * 8) + l7 ∧ (l6 * 8) + l7 < 152 := by omega) (r2 : 0 ≤ l7 ∧ l7 < 8 := by omega) (r3 : 0 ≤ (h (l0 + 3) l7) * (h l0 6) ∧ (h (l0 + 3) l7) * (h l0 6) < 2147483648 := by omega) (kk : Wp mX7_addWall (kR fr M1 M2) Q (b1, b2) 139 [zR l0, zR l1, zI l2, zI l3, zI l4, zI l5, zI l6, zI l7] [] 137 (up h (l0 + 2) ((l6 * 8) + l7) ((h (l0 + 2) ((l6 * 8) + l7)) + (((h (l0 + 3) l7) * (h l0 6)) / 100)))) : Wp mX7_addWall (kR fr M1 M2) Q (b1, b2) 108 [zR l0, zR l1, zI l2, zI l3, zI l4, zI l5, zI l6, zI l7] [] 137 h := by
  refine s_aload_n (x := l0) dX7_addWall_108 rfl ?_
  refine s_getFd (c := l0) (d := l0 + 2) dX7_addWall_109 lX7_15 c1 (Or.inl rfl) rfl (ne0 (fin_X7_1 c1)) ?_
  refine s_iload (x := l6) dX7_addWall_112 rfl ?_
  refine s_bipush dX7_addWall_114 (by decide) ?_
  refine s_imul dX7_addWall_116 ?_
  refine s_iload (x := l7) dX7_addWall_117 rfl ?_
  refine s_iadd dX7_addWall_119 ?_
  refine s_dup2 dX7_addWall_120 rfl rfl ?_
  refine s_iald (c := l0 + 2) (i := (l6 * 8) + l7) dX7_addWall_121 (fin_X7_1 c1) r1.1 r1.2 ?_
  refine s_aload_n (x := l0) dX7_addWall_122 rfl ?_
  refine s_getFd (c := l0) (d := l0 + 3) dX7_addWall_123 lX7_18 c1 (Or.inl rfl) rfl (ne0 (fin_X7_3 c1)) ?_
  refine s_iload (x := l7) dX7_addWall_126 rfl ?_
  refine s_iald (c := l0 + 3) (i := l7) dX7_addWall_128 (fin_X7_3 c1) r2.1 r2.2 ?_
  refine s_aload_n (x := l0) dX7_addWall_129 rfl ?_
  refine s_get (c := l0) dX7_addWall_130 lX7_29 c1 (by decide) ?_
  refine s_imul dX7_addWall_133 ?_
  refine s_bipush dX7_addWall_134 (by decide) ?_
  refine s_idivN dX7_addWall_136 r3.1 r3.2 (by decide) (by decide) ?_
  refine s_iadd dX7_addWall_137 ?_
  refine s_iast (c := l0 + 2) (i := (l6 * 8) + l7) dX7_addWall_138 (fin_X7_1 c1) r1.1 r1.2 ?_
  exact kk
theorem bX7_addWall_139 {fr M1 M2 b1 b2 : Nat} {Q : RS → Nat → AH → Prop} {h : AH} {l0 l1 l2 l3 l4 l5 l6 l7 : Int}   (kk : Wp mX7_addWall (kR fr M1 M2) Q (b1, b2) 70 [zR l0, zR l1, zI l2, zI l3, zI l4, zI l5, zI l6, zI (l7 + 1)] [] 137 h) : Wp mX7_addWall (kR fr M1 M2) Q (b1, b2) 139 [zR l0, zR l1, zI l2, zI l3, zI l4, zI l5, zI l6, zI l7] [] 137 h := by
  refine s_iinc (x := l7) dX7_addWall_139 rfl rfl (by decide) ?_
  exact s_goto (tgt := 70) dX7_addWall_142 (by decide) kk
theorem bX7_addWall_145 {fr M1 M2 b1 b2 : Nat} {Q : RS → Nat → AH → Prop} {h : AH} {l0 l1 l2 l3 l4 l5 : Int} {x6 x7 : AV}   (kk : Wp mX7_addWall (kR fr M1 M2) Q (b1, b2) 45 [zR l0, zR l1, zI l2, zI l3, zI l4, zI (l5 + 1), none, none] [] 137 h) : Wp mX7_addWall (kR fr M1 M2) Q (b1, b2) 145 [zR l0, zR l1, zI l2, zI l3, zI l4, zI l5, x6, x7] [] 137 h := by
  refine s_fgt (fgt_c (fgt_c (fgt_c (fgt_c (fgt_c (fgt_c (fgt_n _ (fgt_n _ fgt_0)))))))) ?_
  refine s_iinc (x := l5) dX7_addWall_145 rfl rfl (by decide) ?_
  exact s_goto (tgt := 45) dX7_addWall_148 (by decide) kk
theorem bX7_addWall_151 {fr M1 M2 b1 b2 : Nat} {Q : RS → Nat → AH → Prop} {h : AH} {x0 x1 x2 x3 x4 x5 x6 x7 : AV}   (hq : Q (.inl none) 137 h) : Wp mX7_addWall (kR fr M1 M2) Q (b1, b2) 151 [x0, x1, x2, x3, x4, x5, x6, x7] [] 137 h := by
  refine s_fgt (fgt_n _ (fgt_n _ (fgt_n _ (fgt_n _ (fgt_n _ (fgt_n _ (fgt_n _ (fgt_n _ fgt_0)))))))) ?_
  exact s_return dX7_addWall_151 rfl hq (fun z => by cases z)
theorem dX7_place_0 : decode mX7_place.cd 0 = .ok (.aload_n 0, 1) := by decide +kernel
theorem dX7_place_1 : decode mX7_place.cd 1 = .ok (.getfield 38, 3) := by decide +kernel
theorem dX7_place_4 : decode mX7_place.cd 4 = .ok (.istore_n 2, 1) := by decide +kernel
theorem dX7_place_5 : decode mX7_place.cd 5 = .ok (.iload_n 2, 1) := by decide +kernel
theorem dX7_place_6 : decode mX7_place.cd 6 = .ok (.ifCond .le 21, 3) := by decide +kernel
theorem dX7_place_9 : decode mX7_place.cd 9 = .ok (.aload_n 0, 1) := by decide +kernel
theorem dX7_place_10 : decode mX7_place.cd 10 = .ok (.getfield 11, 3) := by decide +kernel
theorem dX7_place_13 : decode mX7_place.cd 13 = .ok (.iload_n 2, 1) := by decide +kernel
theorem dX7_place_14 : decode mX7_place.cd 14 = .ok (.iconst 1, 1) := by decide +kernel
theorem dX7_place_15 : decode mX7_place.cd 15 = .ok (.isub, 1) := by decide +kernel
theorem dX7_place_16 : decode mX7_place.cd 16 = .ok (.iaload, 1) := by decide +kernel
theorem dX7_place_17 : decode mX7_place.cd 17 = .ok (.iload_n 1, 1) := by decide +kernel
theorem dX7_place_18 : decode mX7_place.cd 18 = .ok (.if_icmp .lt 9, 3) := by decide +kernel
theorem dX7_place_21 : decode mX7_place.cd 21 = .ok (.iinc 2 (-1), 3) := by decide +kernel
theorem dX7_place_24 : decode mX7_place.cd 24 = .ok (.goto (-19), 3) := by decide +kernel
theorem dX7_place_27 : decode mX7_place.cd 27 = .ok (.iload_n 2, 1) := by decide +kernel
theorem dX7_place_28 : decode mX7_place.cd 28 = .ok (.aload_n 0, 1) := by decide +kernel
theorem dX7_place_29 : decode mX7_place.cd 29 = .ok (.getfield 38, 3) := by decide +kernel
theorem dX7_place_32 : decode mX7_place.cd 32 = .ok (.if_icmp .ge 15, 3) := by decide +kernel
theorem dX7_place_35 : decode mX7_place.cd 35 = .ok (.aload_n 0, 1) := by decide +kernel
theorem dX7_place_36 : decode mX7_place.cd 36 = .ok (.getfield 11, 3) := by decide +kernel
theorem dX7_place_39 : decode mX7_place.cd 39 = .ok (.iload_n 2, 1) := by decide +kernel
theorem dX7_place_40 : decode mX7_place.cd 40 = .ok (.iaload, 1) := by decide +kernel
theorem dX7_place_41 : decode mX7_place.cd 41 = .ok (.iload_n 1, 1) := by decide +kernel
theorem dX7_place_42 : decode mX7_place.cd 42 = .ok (.if_icmp .ne 5, 3) := by decide +kernel
theorem dX7_place_45 : decode mX7_place.cd 45 = .ok (.iload_n 2, 1) := by decide +kernel
theorem dX7_place_46 : decode mX7_place.cd 46 = .ok (.ireturn, 1) := by decide +kernel
theorem dX7_place_47 : decode mX7_place.cd 47 = .ok (.aload_n 0, 1) := by decide +kernel
theorem dX7_place_48 : decode mX7_place.cd 48 = .ok (.getfield 38, 3) := by decide +kernel
theorem dX7_place_51 : decode mX7_place.cd 51 = .ok (.istore_n 3, 1) := by decide +kernel
theorem dX7_place_52 : decode mX7_place.cd 52 = .ok (.iload_n 3, 1) := by decide +kernel
theorem dX7_place_53 : decode mX7_place.cd 53 = .ok (.iload_n 2, 1) := by decide +kernel
theorem dX7_place_54 : decode mX7_place.cd 54 = .ok (.if_icmp .le 46, 3) := by decide +kernel
theorem dX7_place_57 : decode mX7_place.cd 57 = .ok (.aload_n 0, 1) := by decide +kernel
theorem dX7_place_58 : decode mX7_place.cd 58 = .ok (.getfield 11, 3) := by decide +kernel
theorem dX7_place_61 : decode mX7_place.cd 61 = .ok (.iload_n 3, 1) := by decide +kernel
theorem dX7_place_62 : decode mX7_place.cd 62 = .ok (.aload_n 0, 1) := by decide +kernel
theorem dX7_place_63 : decode mX7_place.cd 63 = .ok (.getfield 11, 3) := by decide +kernel
theorem dX7_place_66 : decode mX7_place.cd 66 = .ok (.iload_n 3, 1) := by decide +kernel
theorem dX7_place_67 : decode mX7_place.cd 67 = .ok (.iconst 1, 1) := by decide +kernel
theorem dX7_place_68 : decode mX7_place.cd 68 = .ok (.isub, 1) := by decide +kernel
theorem dX7_place_69 : decode mX7_place.cd 69 = .ok (.iaload, 1) := by decide +kernel
theorem dX7_place_70 : decode mX7_place.cd 70 = .ok (.iastore, 1) := by decide +kernel
theorem dX7_place_71 : decode mX7_place.cd 71 = .ok (.aload_n 0, 1) := by decide +kernel
theorem dX7_place_72 : decode mX7_place.cd 72 = .ok (.getfield 15, 3) := by decide +kernel
theorem dX7_place_75 : decode mX7_place.cd 75 = .ok (.iload_n 3, 1) := by decide +kernel
theorem dX7_place_76 : decode mX7_place.cd 76 = .ok (.iconst 1, 1) := by decide +kernel
theorem dX7_place_77 : decode mX7_place.cd 77 = .ok (.isub, 1) := by decide +kernel
theorem dX7_place_78 : decode mX7_place.cd 78 = .ok (.bipush 8, 2) := by decide +kernel
theorem dX7_place_80 : decode mX7_place.cd 80 = .ok (.imul, 1) := by decide +kernel
theorem dX7_place_81 : decode mX7_place.cd 81 = .ok (.aload_n 0, 1) := by decide +kernel
theorem dX7_place_82 : decode mX7_place.cd 82 = .ok (.getfield 15, 3) := by decide +kernel
theorem dX7_place_85 : decode mX7_place.cd 85 = .ok (.iload_n 3, 1) := by decide +kernel
theorem dX7_place_86 : decode mX7_place.cd 86 = .ok (.bipush 8, 2) := by decide +kernel
theorem dX7_place_88 : decode mX7_place.cd 88 = .ok (.imul, 1) := by decide +kernel
theorem dX7_place_89 : decode mX7_place.cd 89 = .ok (.bipush 8, 2) := by decide +kernel
theorem dX7_place_91 : decode mX7_place.cd 91 = .ok (.invokestatic 54, 3) := by decide +kernel
theorem dX7_place_94 : decode mX7_place.cd 94 = .ok (.iinc 3 (-1), 3) := by decide +kernel
theorem dX7_place_97 : decode mX7_place.cd 97 = .ok (.goto (-45), 3) := by decide +kernel
theorem dX7_place_100 : decode mX7_place.cd 100 = .ok (.aload_n 0, 1) := by decide +kernel
theorem dX7_place_101 : decode mX7_place.cd 101 = .ok (.getfield 11, 3) := by decide +kernel
theorem dX7_place_104 : decode mX7_place.cd 104 = .ok (.iload_n 2, 1) := by decide +kernel
theorem dX7_place_105 : decode mX7_place.cd 105 = .ok (.iload_n 1, 1) := by decide +kernel
theorem dX7_place_106 : decode mX7_place.cd 106 = .ok (.iastore, 1) := by decide +kernel
theorem dX7_place_107 : decode mX7_place.cd 107 = .ok (.iconst 0, 1) := by decide +kernel
theorem dX7_place_108 : decode mX7_place.cd 108 = .ok (.istore_n 3, 1) := by decide +kernel
theorem dX7_place_109 : decode mX7_place.cd 109 = .ok (.iload_n 3, 1) := by decide +kernel
theorem dX7_place_110 : decode mX7_place.cd 110 = .ok (.bipush 8, 2) := by decide +kernel
theorem dX7_place_112 : decode mX7_place.cd 112 = .ok (.if_icmp .ge 21, 3) := by decide +kernel
theorem dX7_place_115 : decode mX7_place.cd 115 = .ok (.aload_n 0, 1) := by decide +kernel
theorem dX7_place_116 : decode mX7_place.cd 116 = .ok (.getfield 15, 3) := by decide +kernel
theorem dX7_place_119 : decode mX7_place.cd 119 = .ok (.iload_n 2, 1) := by decide +kernel
theorem dX7_place_120 : decode mX7_place.cd 120 = .ok (.bipush 8, 2) := by decide +kernel
theorem dX7_place_122 : decode mX7_place.cd 122 = .ok (.imul, 1) := by decide +kernel
theorem dX7_place_123 : decode mX7_place.cd 123 = .ok (.iload_n 3, 1) := by decide +kernel
theorem dX7_place_124 : decode mX7_place.cd 124 = .ok (.iadd, 1) := by decide +kernel
theorem dX7_place_125 : decode mX7_place.cd 125 = .ok (.iconst 0, 1) := by decide +kernel
theorem dX7_place_126 : decode mX7_place.cd 126 = .ok (.iastore, 1) := by decide +kernel
theorem dX7_place_127 : decode mX7_place.cd 127 = .ok (.iinc 3 1, 3) := by decide +kernel
theorem dX7_place_130 : decode mX7_place.cd 130 = .ok (.goto (-21), 3) := by decide +kernel
theorem dX7_place_133 : decode mX7_place.cd 133 = .ok (.aload_n 0, 1) := by decide +kernel
theorem dX7_place_134 : decode mX7_place.cd 134 = .ok (.dup, 1) := by decide +kernel
theorem dX7_place_135 : decode mX7_place.cd 135 = .ok (.getfield 38, 3) := by decide +kernel
theorem dX7_place_138 : decode mX7_place.cd 138 = .ok (.iconst 1, 1) := by decide +kernel
theorem dX7_place_139 : decode mX7_place.cd 139 = .ok (.iadd, 1) := by decide +kernel
theorem dX7_place_140 : decode mX7_place.cd 140 = .ok (.putfield 38, 3) := by decide +kernel
theorem dX7_place_143 : decode mX7_place.cd 143 = .ok (.iload_n 2, 1) := by decide +kernel
theorem dX7_place_144 : decode mX7_place.cd 144 = .ok (.ireturn, 1) := by decide +kernel
theorem bX7_place_0 {fr M1 M2 b1 b2 : Nat} {Q : RS → Nat → AH → Prop} {h : AH} {l0 l1 : Int} {x2 x3 : AV} (c1 : cel 137 l0 (7, 9) := by first | assumption | omega)  (kk : Wp mX7_place (kR fr M1 M2) Q (b1, b2) 5 [zR l0, zI l1, zI (h l0 2), none] [] 137 h) : Wp mX7_place (kR fr M1 M2) Q (b1, b2) 0 [zR l0, zI l1, x2, x3] [] 137 h := by
  refine s_fgt (fgt_c (fgt_c (fgt_n _ (fgt_n _ fgt_0)))) ?_
  refine s_aload_n (x := l0) dX7_place_0 rfl ?_
  refine s_get (c := l0) dX7_place_1 lX7_38 c1 (by decide) ?_
  refine s_istore_n dX7_place_4 rfl (by decide) ?_
  exact kk
theorem bX7_place_5 {fr M1 M2 b1 b2 : Nat} {Q : RS → Nat → AH → Prop} {h : AH} {l0 l1 l2 : Int} {x3 : AV}  (r1 : -2147483648 ≤ l2 ∧ l2 < 2147483648 := by omega) (kt : l2 ≤ 0 → Wp mX7_place (kR fr M1 M2) Q (b1, b2) 27 [zR l0, zI l1, zI l2, none] [] 137 h) (kf : 0 < l2 → Wp mX7_place (kR fr M1 M2) Q (b1, b2) 9 [zR l0, zI l1, zI l2, none] [] 137 h) : Wp mX7_place (kR fr M1 M2) Q (b1, b2) 5 [zR l0, zI l1, zI l2, x3] [] 137 h := by
  refine s_fgt (fgt_c (fgt_c (fgt_c (fgt_n _ fgt_0)))) ?_
  refine s_iload_n (x := l2) dX7_place_5 rfl ?_
  exact s_if_le (tgt := 27) dX7_place_6 (by decide) r1 kt kf
theorem bX7_place_9 {fr M1 M2 b1 b2 : Nat} {Q : RS → Nat → AH → Prop} {h : AH} {l0 l1 l2 : Int} {x3 : AV} (c1 : cel 137 l0 (7, 9) := by first | assumption | omega) (r1 : 0 ≤ l2 - 1 ∧ l2 - 1 < 19 := by omega) (r2 : -2147483648 ≤ h (l0 + 1) (l2 - 1) ∧ h (l0 + 1) (l2 - 1) < 2147483648 := by omega) (r3 : -2147483648 ≤ l1 ∧ l1 < 2147483648 := by omega) (kt : h (l0 + 1) (l2 - 1) < l1 → Wp mX7_place (kR fr M1 M2) Q (b1, b2) 27 [zR l0, zI l1, zI l2, none] [] 137 h) (kf : l1 ≤ h (l0 + 1) (l2 - 1) → Wp mX7_place (kR fr M1 M2) Q (b1, b2) 21 [zR l0, zI l1, zI l2, none] [] 137 h) : Wp mX7_place (kR fr M1 M2) Q (b1, b2) 9 [zR l0, zI l1, zI l2, x3] [] 137 h := by
  refine s_fgt (fgt_c (fgt_c (fgt_c (fgt_n _ fgt_0)))) ?_
  refine s_aload_n (x := l0) dX7_place_9 rfl ?_
  refine s_getFd (c := l0) (d := l0 + 1) dX7_place_10 lX7_11 c1 (Or.inl rfl) rfl (ne0 (fin_X7_0 c1)) ?_
  refine s_iload_n (x := l2) dX7_place_13 rfl ?_
  refine s_iconst dX7_place_14 ?_
  refine s_isub dX7_place_15 ?_
  refine s_iald (c := l0 + 1) (i := l2 - 1) dX7_place_16 (fin_X7_0 c1) r1.1 r1.2 ?_
  refine s_iload_n (x := l1) dX7_place_17 rfl ?_
  exact s_icmp_lt (tgt := 27) dX7_place_18 (by decide) r2 r3 kt kf
theorem bX7_place_21 {fr M1 M2 b1 b2 : Nat} {Q : RS → Nat → AH → Prop} {h : AH} {l0 l1 l2 : Int} {x3 : AV}   (kk : Wp mX7_place (kR fr M1 M2) Q (b1, b2) 5 [zR l0, zI l1, zI (l2 + (-1)), none] [] 137 h) : Wp mX7_place (kR fr M1 M2) Q (b1, b2) 21 [zR l0, zI l1, zI l2, x3] [] 137 h := by
  refine s_fgt (fgt_c (fgt_c (fgt_c (fgt_n _ fgt_0)))) ?_
  refine s_iinc (x := l2) dX7_place_21 rfl rfl (by decide) ?_
  exact s_goto (tgt := 5) dX7_place_24 (by decide) kk
theorem bX7_place_27 {fr M1 M2 b1 b2 : Nat} {Q : RS → Nat → AH → Prop} {h : AH} {l0 l1 l2 : Int} {x3 : AV} (c1 : cel 137 l0 (7, 9) := by first | assumption | omega) (r1 : -2147483648 ≤ l2 ∧ l2 < 2147483648 := by omega) (r2 : -2147483648 ≤ h l0 2 ∧ h l0 2 < 2147483648 := by omega) (kt : h l0 2 ≤ l2 → Wp mX7_place (kR fr M1 M2) Q (b1, b2) 47 [zR l0, zI l1, zI l2, none] [] 137 h) (kf : l2 < h l0 2 → Wp mX7_place (kR fr M1 M2) Q (b1, b2) 35 [zR l0, zI l1, zI l2, none] [] 137 h) : Wp mX7_place (kR fr M1 M2) Q (b1, b2) 27 [zR l0, zI l1, zI l2, x3] [] 137 h := by
  refine s_fgt (fgt_c (fgt_c (fgt_c (fgt_n _ fgt_0)))) ?_
  refine s_iload_n (x := l2) dX7_place_27 rfl ?_
  refine s_aload_n (x := l0) dX7_place_28 rfl ?_
  refine s_get (c := l0) dX7_place_29 lX7_38 c1 (by decide) ?_
  exact s_icmp_ge (tgt := 47) dX7_place_32 (by decide) r1 r2 kt kf
theorem bX7_place_35 {fr M1 M2 b1 b2 : Nat} {Q : RS → Nat → AH → Prop} {h : AH} {l0 l1 l2 : Int} {x3 : AV} (c1 : cel 137 l0 (7, 9) := by first | assumption | omega) (r1 : 0 ≤ l2 ∧ l2 < 19 := by omega) (r2 : -2147483648 ≤ h (l0 + 1) l2 ∧ h (l0 + 1) l2 < 2147483648 := by omega) (r3 : -2147483648 ≤ l1 ∧ l1 < 2147483648 := by omega) (kt : ¬ h (l0 + 1) l2 = l1 → Wp mX7_place (kR fr M1 M2) Q (b1, b2) 47 [zR l0, zI l1, zI l2, none] [] 137 h) (kf : h (l0 + 1) l2 = l1 → Wp mX7_place (kR fr M1 M2) Q (b1, b2) 45 [zR l0, zI l1, zI l2, none] [] 137 h) : Wp mX7_place (kR fr M1 M2) Q (b1, b2) 35 [zR l0, zI l1, zI l2, x3] [] 137 h := by
  refine s_fgt (fgt_c (fgt_c (fgt_c (fgt_n _ fgt_0)))) ?_
  refine s_aload_n (x := l0) dX7_place_35 rfl ?_
  refine s_getFd (c := l0) (d := l0 + 1) dX7_place_36 lX7_11 c1 (Or.inl rfl) rfl (ne0 (fin_X7_0 c1)) ?_
  refine s_iload_n (x := l2) dX7_place_39 rfl ?_
  refine s_iald (c := l0 + 1) (i := l2) dX7_place_40 (fin_X7_0 c1) r1.1 r1.2 ?_
  refine s_iload_n (x := l1) dX7_place_41 rfl ?_
  exact s_icmp_ne (tgt := 47) dX7_place_42 (by decide) r2 r3 kt kf
theorem bX7_place_45 {fr M1 M2 b1 b2 : Nat} {Q : RS → Nat → AH → Prop} {h : AH} {l2 : Int} {x0 x1 x3 : AV}   (hq : Q (.inl (some (zI l2))) 137 h) : Wp mX7_place (kR fr M1 M2) Q (b1, b2) 45 [x0, x1, zI l2, x3] [] 137 h := by
  refine s_fgt (fgt_n _ (fgt_n _ (fgt_c (fgt_n _ fgt_0)))) ?_
  refine s_iload_n (x := l2) dX7_place_45 rfl ?_
  exact s_ireturn dX7_place_46 ⟨.int, rfl, rfl⟩ hq (fun z => by cases z)
theorem bX7_place_47 {fr M1 M2 b1 b2 : Nat} {Q : RS → Nat → AH → Prop} {h : AH} {l0 l1 l2 : Int} {x3 : AV} (c1 : cel 137 l0 (7, 9) := by first | assumption | omega)  (kk : Wp mX7_place (kR fr M1 M2) Q (b1, b2) 52 [zR l0, zI l1, zI l2, zI (h l0 2)] [] 137 h) : Wp mX7_place (kR fr M1 M2) Q (b1, b2) 47 [zR l0, zI l1, zI l2, x3] [] 137 h := by
  refine s_fgt (fgt_c (fgt_c (fgt_c (fgt_n _ fgt_0)))) ?_
  refine s_aload_n (x := l0) dX7_place_47 rfl ?_
  refine s_get (c := l0) dX7_place_48 lX7_38 c1 (by decide) ?_
  refine s_istore_n dX7_place_51 rfl (by decide) ?_
  exact kk
theorem bX7_place_52 {fr M1 M2 b1 b2 : Nat} {Q : RS → Nat → AH → Prop} {h : AH} {l0 l1 l2 l3 : Int}  (r1 : -2147483648 ≤ l3 ∧ l3 < 2147483648 := by omega) (r2 : -2147483648 ≤ l2 ∧ l2 < 2147483648 := by omega) (kt : l3 ≤ l2 → Wp mX7_place (kR fr M1 M2) Q (b1, b2) 100 [zR l0, zI l1, zI l2, zI l3] [] 137 h) (kf : l2 < l3 → Wp mX7_place (kR fr M1 M2) Q (b1, b2) 57 [zR l0, zI l1, zI l2, zI l3] [] 137 h) : Wp mX7_place (kR fr M1 M2) Q (b1, b2) 52 [zR l0, zI l1, zI l2, zI l3] [] 137 h := by
  refine s_iload_n (x := l3) dX7_place_52 rfl ?_
  refine s_iload_n (x := l2) dX7_place_53 rfl ?_
  exact s_icmp_le (tgt := 100) dX7_place_54 (by decide) r1 r2 kt kf
theorem bX7_place_57 {fr M1 M2 b1 b2 : Nat} {Q : RS → Nat → AH → Prop} {h : AH} {l0 l1 l2 l3 : Int} (c1 : cel 137 l0 (7, 9) := by first | assumption | omega) (r1 : 0 ≤ l3 - 1 ∧ l3 - 1 < 19 := by omega) (r2 : 0 ≤ l3 ∧ l3 < 19 := by omega) (r3 : 1 ≤ fr := by omega) (r4 : 0 ≤ (l3 - 1) * 8 := by omega) (r5 : (l3 - 1) * 8 + 8 ≤ 152 := by omega) (r6 : 0 ≤ l3 * 8 := by omega) (r7 : l3 * 8 + 8 ≤ 152 := by omega) (kk : Wp mX7_place (kR fr M1 M2) Q (b1, b2) 52 [zR l0, zI l1, zI l2, zI (l3 + (-1))] [] 137 (cpy (up h (l0 + 1) l3 (h (l0 + 1) (l3 - 1))) (l0 + 2) ((l3 - 1) * 8) (l0 + 2) (l3 * 8) 8)) : Wp mX7_place (kR fr M1 M2) Q (b1, b2) 57 [zR l0, zI l1, zI l2, zI l3] [] 137 h := by
  refine s_aload_n (x := l0) dX7_place_57 rfl ?_
  refine s_getFd (c := l0) (d := l0 + 1) dX7_place_58 lX7_11 c1 (Or.inl rfl) rfl (ne0 (fin_X7_0 c1)) ?_
  refine s_iload_n (x := l3) dX7_place_61 rfl ?_
  refine s_aload_n (x := l0) dX7_place_62 rfl ?_
  refine s_getFd (c := l0) (d := l0 + 1) dX7_place_63 lX7_11 c1 (Or.inl rfl) rfl (ne0 (fin_X7_0 c1)) ?_
  refine s_iload_n (x := l3) dX7_place_66 rfl ?_
  refine s_iconst dX7_place_67 ?_
  refine s_isub dX7_place_68 ?_
  refine s_iald (c := l0 + 1) (i := l3 - 1) dX7_place_69 (fin_X7_0 c1) r1.1 r1.2 ?_
  refine s_iast (c := l0 + 1) (i := l3) dX7_place_70 (fin_X7_0 c1) r2.1 r2.2 ?_
  refine s_aload_n (x := l0) dX7_place_71 rfl ?_
  refine s_getFd (c := l0) (d := l0 + 2) dX7_place_72 lX7_15 c1 (Or.inl rfl) rfl (ne0 (fin_X7_1 c1)) ?_
  refine s_iload_n (x := l3) dX7_place_75 rfl ?_
  refine s_iconst dX7_place_76 ?_
  refine s_isub dX7_place_77 ?_
  refine s_bipush dX7_place_78 (by decide) ?_
  refine s_imul dX7_place_80 ?_
  refine s_aload_n (x := l0) dX7_place_81 rfl ?_
  refine s_getFd (c := l0) (d := l0 + 2) dX7_place_82 lX7_15 c1 (Or.inl rfl) rfl (ne0 (fin_X7_1 c1)) ?_
  refine s_iload_n (x := l3) dX7_place_85 rfl ?_
  refine s_bipush dX7_place_86 (by decide) ?_
  refine s_imul dX7_place_88 ?_
  refine s_bipush dX7_place_89 (by decide) ?_
  refine s_copy dX7_place_91 wd935 wd624 wd623 wd25 r3 (Nat.le_of_ble_eq_true rfl) (fin_X7_1 c1) (fin_X7_1 c1) r4 r5 r6 r7 (by decide)  ?_
  refine s_iinc (x := l3) dX7_place_94 rfl rfl (by decide) ?_
  exact s_goto (tgt := 52) dX7_place_97 (by decide) kk
theorem bX7_place_100 {fr M1 M2 b1 b2 : Nat} {Q : RS → Nat → AH → Prop} {h : AH} {l0 l1 l2 : Int} {x3 : AV} (c1 : cel 137 l0 (7, 9) := by first | assumption | omega) (r1 : 0 ≤ l2 ∧ l2 < 19 := by omega) (kk : Wp mX7_place (kR fr M1 M2) Q (b1, b2) 109 [zR l0, zI l1, zI l2, zI 0] [] 137 (up h (l0 + 1) l2 l1)) : Wp mX7_place (kR fr M1 M2) Q (b1, b2) 100 [zR l0, zI l1, zI l2, x3] [] 137 h := by
  refine s_fgt (fgt_c (fgt_c (fgt_c (fgt_n _ fgt_0)))) ?_
  refine s_aload_n (x := l0) dX7_place_100 rfl ?_
  refine s_getFd (c := l0) (d := l0 + 1) dX7_place_101 lX7_11 c1 (Or.inl rfl) rfl (ne0 (fin_X7_0 c1)) ?_
  refine s_iload_n (x := l2) dX7_place_104 rfl ?_
  refine s_iload_n (x := l1) dX7_place_105 rfl ?_
  refine s_iast (c := l0 + 1) (i := l2) dX7_place_106 (fin_X7_0 c1) r1.1 r1.2 ?_
  refine s_iconst dX7_place_107 ?_
  refine s_istore_n dX7_place_108 rfl (by decide) ?_
  exact kk
theorem bX7_place_109 {fr M1 M2 b1 b2 : Nat} {Q : RS → Nat → AH → Prop} {h : AH} {l0 l2 l3 : Int} {x1 : AV}  (r1 : -2147483648 ≤ l3 ∧ l3 < 2147483648 := by omega) (kt : 8 ≤ l3 → Wp mX7_place (kR fr M1 M2) Q (b1, b2) 133 [zR l0, none, zI l2, zI l3] [] 137 h) (kf : l3 < 8 → Wp mX7_place (kR fr M1 M2) Q (b1, b2) 115 [zR l0, none, zI l2, zI l3] [] 137 h) : Wp mX7_place (kR fr M1 M2) Q (b1, b2) 109 [zR l0, x1, zI l2, zI l3] [] 137 h := by
  refine s_fgt (fgt_c (fgt_n _ (fgt_c (fgt_c fgt_0)))) ?_
  refine s_iload_n (x := l3) dX7_place_109 rfl ?_
  refine s_bipush dX7_place_110 (by decide) ?_
  exact s_icmp_ge (tgt := 133) dX7_place_112 (by decide) r1 ⟨by decide, by decide⟩ kt kf
theorem bX7_place_115 {fr M1 M2 b1 b2 : Nat} {Q : RS → Nat → AH → Prop} {h : AH} {l0 l2 l3 : Int} {x1 : AV} (c1 : cel 137 l0 (7, 9) := by first | assumption | omega) (r1 : 0 ≤ (l2 * 8) + l3 ∧ (l2 * 8) + l3 < 152 := by omega) (kk : Wp mX7_place (kR fr M1 M2) Q (b1, b2) 109 [zR l0, none, zI l2, zI (l3 + 1)] [] 137 (up h (l0 + 2) ((l2 * 8) + l3) 0)) : Wp mX7_place (kR fr M1 M2) Q (b1, b2) 115 [zR l0, x1, zI l2, zI l3] [] 137 h := by
  refine s_fgt (fgt_c (fgt_n _ (fgt_c (fgt_c fgt_0)))) ?_
  refine s_aload_n (x := l0) dX7_place_115 rfl ?_
  refine s_getFd (c := l0) (d := l0 + 2) dX7_place_116 lX7_15 c1 (Or.inl rfl) rfl (ne0 (fin_X7_1 c1)) ?_
  refine s_iload_n (x := l2) dX7_place_119 rfl ?_
  refine s_bipush dX7_place_120 (by decide) ?_
  refine s_imul dX7_place_122 ?_
  refine s_iload_n (x := l3) dX7_place_123 rfl ?_
  refine s_iadd dX7_place_124 ?_
  refine s_iconst dX7_place_125 ?_
  refine s_iast (c := l0 + 2) (i := (l2 * 8) + l3) dX7_place_126 (fin_X7_1 c1) r1.1 r1.2 ?_
  refine s_iinc (x := l3) dX7_place_127 rfl rfl (by decide) ?_
  exact s_goto (tgt := 109) dX7_place_130 (by decide) kk
theorem bX7_place_133 {fr M1 M2 b1 b2 : Nat} {Q : RS → Nat → AH → Prop} {h : AH} {l0 l2 : Int} {x1 x3 : AV} (c1 : cel 137 l0 (7, 9) := by first | assumption | omega)  (hq : Q (.inl (some (zI l2))) 137 (up h l0 2 ((h l0 2) + 1))) : Wp mX7_place (kR fr M1 M2) Q (b1, b2) 133 [zR l0, x1, zI l2, x3] [] 137 h := by
  refine s_fgt (fgt_c (fgt_n _ (fgt_c (fgt_n _ fgt_0)))) ?_
  refine s_aload_n (x := l0) dX7_place_133 rfl ?_
  refine s_dup dX7_place_134 rfl ?_
  refine s_get (c := l0) dX7_place_135 lX7_38 c1 (by decide) ?_
  refine s_iconst dX7_place_138 ?_
  refine s_iadd dX7_place_139 ?_
  refine s_put (c := l0) dX7_place_140 lX7_38 c1 ?_
  refine s_iload_n (x := l2) dX7_place_143 rfl ?_
  exact s_ireturn dX7_place_144 ⟨.int, rfl, rfl⟩ hq (fun z => by cases z)
theorem dX7_longest_0 : decode mX7_longest.cd 0 = .ok (.aload_n 0, 1) := by decide +kernel
theorem dX7_longest_1 : decode mX7_longest.cd 1 = .ok (.getfield 38, 3) := by decide +kernel
theorem dX7_longest_4 : decode mX7_longest.cd 4 = .ok (.ifCond .le 17, 3) := by decide +kernel
theorem dX7_longest_7 : decode mX7_longest.cd 7 = .ok (.aload_n 0, 1) := by decide +kernel
theorem dX7_longest_8 : decode mX7_longest.cd 8 = .ok (.getfield 11, 3) := by decide +kernel
theorem dX7_longest_11 : decode mX7_longest.cd 11 = .ok (.aload_n 0, 1) := by decide +kernel
theorem dX7_longest_12 : decode mX7_longest.cd 12 = .ok (.getfield 38, 3) := by decide +kernel
theorem dX7_longest_15 : decode mX7_longest.cd 15 = .ok (.iconst 1, 1) := by decide +kernel
theorem dX7_longest_16 : decode mX7_longest.cd 16 = .ok (.isub, 1) := by decide +kernel
theorem dX7_longest_17 : decode mX7_longest.cd 17 = .ok (.iaload, 1) := by decide +kernel
theorem dX7_longest_18 : decode mX7_longest.cd 18 = .ok (.goto 4, 3) := by decide +kernel
theorem dX7_longest_21 : decode mX7_longest.cd 21 = .ok (.iconst 0, 1) := by decide +kernel
theorem dX7_longest_22 : decode mX7_longest.cd 22 = .ok (.ireturn, 1) := by decide +kernel
theorem bX7_longest_0 {fr M1 M2 b1 b2 : Nat} {Q : RS → Nat → AH → Prop} {h : AH} {l0 : Int} (c1 : cel 137 l0 (7, 9) := by first | assumption | omega) (r1 : -2147483648 ≤ h l0 2 ∧ h l0 2 < 2147483648 := by omega) (kt : h l0 2 ≤ 0 → Wp mX7_longest (kR fr M1 M2) Q (b1, b2) 21 [zR l0] [] 137 h) (kf : 0 < h l0 2 → Wp mX7_longest (kR fr M1 M2) Q (b1, b2) 7 [zR l0] [] 137 h) : Wp mX7_longest (kR fr M1 M2) Q (b1, b2) 0 [zR l0] [] 137 h := by
  refine s_aload_n (x := l0) dX7_longest_0 rfl ?_
  refine s_get (c := l0) dX7_longest_1 lX7_38 c1 (by decide) ?_
  exact s_if_le (tgt := 21) dX7_longest_4 (by decide) r1 kt kf
theorem bX7_longest_7 {fr M1 M2 b1 b2 : Nat} {Q : RS → Nat → AH → Prop} {h : AH} {l0 : Int} (c1 : cel 137 l0 (7, 9) := by first | assumption | omega) (r1 : 0 ≤ (h l0 2) - 1 ∧ (h l0 2) - 1 < 19 := by omega) (kk : Wp mX7_longest (kR fr M1 M2) Q (b1, b2) 22 [zR l0] [zI (h (l0 + 1) ((h l0 2) - 1))] 137 h) : Wp mX7_longest (kR fr M1 M2) Q (b1, b2) 7 [zR l0] [] 137 h := by
  refine s_aload_n (x := l0) dX7_longest_7 rfl ?_
  refine s_getFd (c := l0) (d := l0 + 1) dX7_longest_8 lX7_11 c1 (Or.inl rfl) rfl (ne0 (fin_X7_0 c1)) ?_
  refine s_aload_n (x := l0) dX7_longest_11 rfl ?_
  refine s_get (c := l0) dX7_longest_12 lX7_38 c1 (by decide) ?_
  refine s_iconst dX7_longest_15 ?_
  refine s_isub dX7_longest_16 ?_
  refine s_iald (c := l0 + 1) (i := (h l0 2) - 1) dX7_longest_17 (fin_X7_0 c1) r1.1 r1.2 ?_
  exact s_goto (tgt := 22) dX7_longest_18 (by decide) kk
theorem bX7_longest_21 {fr M1 M2 b1 b2 : Nat} {Q : RS → Nat → AH → Prop} {h : AH} {x0 : AV}   (kk : Wp mX7_longest (kR fr M1 M2) Q (b1, b2) 22 [none] [zI 0] 137 h) : Wp mX7_longest (kR fr M1 M2) Q (b1, b2) 21 [x0] [] 137 h := by
  refine s_fgt (fgt_n _ fgt_0) ?_
  refine s_iconst dX7_longest_21 ?_
  exact kk
theorem bX7_longest_22 {fr M1 M2 b1 b2 : Nat} {Q : RS → Nat → AH → Prop} {h : AH} {s0 : Int} {x0 : AV}   (hq : Q (.inl (some (zI s0))) 137 h) : Wp mX7_longest (kR fr M1 M2) Q (b1, b2) 22 [x0] [zI s0] 137 h := by
  refine s_fgt (fgt_n _ fgt_0) ?_
  exact s_ireturn dX7_longest_22 ⟨.int, rfl, rfl⟩ hq (fun z => by cases z)
theorem dX7_canReach_0 : decode mX7_canReach.cd 0 = .ok (.iconst 0, 1) := by decide +kernel
theorem dX7_canReach_1 : decode mX7_canReach.cd 1 = .ok (.istore_n 2, 1) := by decide +kernel
theorem dX7_canReach_2 : decode mX7_canReach.cd 2 = .ok (.iload_n 2, 1) := by decide +kernel
theorem dX7_canReach_3 : decode mX7_canReach.cd 3 = .ok (.bipush 8, 2) := by decide +kernel
theorem dX7_canReach_5 : decode mX7_canReach.cd 5 = .ok (.if_icmp .ge 65, 3) := by decide +kernel
theorem dX7_canReach_8 : decode mX7_canReach.cd 8 = .ok (.iconst 0, 1) := by decide +kernel
theorem dX7_canReach_9 : decode mX7_canReach.cd 9 = .ok (.istore_n 3, 1) := by decide +kernel
theorem dX7_canReach_10 : decode mX7_canReach.cd 10 = .ok (.iconst 0, 1) := by decide +kernel
theorem dX7_canReach_11 : decode mX7_canReach.cd 11 = .ok (.istore 4, 2) := by decide +kernel
theorem dX7_canReach_13 : decode mX7_canReach.cd 13 = .ok (.iload 4, 2) := by decide +kernel
theorem dX7_canReach_15 : decode mX7_canReach.cd 15 = .ok (.aload_n 0, 1) := by decide +kernel
theorem dX7_canReach_16 : decode mX7_canReach.cd 16 = .ok (.getfield 38, 3) := by decide +kernel
theorem dX7_canReach_19 : decode mX7_canReach.cd 19 = .ok (.if_icmp .ge 38, 3) := by decide +kernel
theorem dX7_canReach_22 : decode mX7_canReach.cd 22 = .ok (.iload_n 3, 1) := by decide +kernel
theorem dX7_canReach_23 : decode mX7_canReach.cd 23 = .ok (.aload_n 0, 1) := by decide +kernel
theorem dX7_canReach_24 : decode mX7_canReach.cd 24 = .ok (.getfield 11, 3) := by decide +kernel
theorem dX7_canReach_27 : decode mX7_canReach.cd 27 = .ok (.iload 4, 2) := by decide +kernel
theorem dX7_canReach_29 : decode mX7_canReach.cd 29 = .ok (.iaload, 1) := by decide +kernel
theorem dX7_canReach_30 : decode mX7_canReach.cd 30 = .ok (.ifCond .le 18, 3) := by decide +kernel
theorem dX7_canReach_33 : decode mX7_canReach.cd 33 = .ok (.aload_n 0, 1) := by decide +kernel
theorem dX7_canReach_34 : decode mX7_canReach.cd 34 = .ok (.getfield 15, 3) := by decide +kernel
theorem dX7_canReach_37 : decode mX7_canReach.cd 37 = .ok (.iload 4, 2) := by decide +kernel
theorem dX7_canReach_39 : decode mX7_canReach.cd 39 = .ok (.bipush 8, 2) := by decide +kernel
theorem dX7_canReach_41 : decode mX7_canReach.cd 41 = .ok (.imul, 1) := by decide +kernel
theorem dX7_canReach_42 : decode mX7_canReach.cd 42 = .ok (.iload_n 2, 1) := by decide +kernel
theorem dX7_canReach_43 : decode mX7_canReach.cd 43 = .ok (.iadd, 1) := by decide +kernel
theorem dX7_canReach_44 : decode mX7_canReach.cd 44 = .ok (.iaload, 1) := by decide +kernel
theorem dX7_canReach_45 : decode mX7_canReach.cd 45 = .ok (.goto 4, 3) := by decide +kernel
theorem dX7_canReach_48 : decode mX7_canReach.cd 48 = .ok (.iconst 0, 1) := by decide +kernel
theorem dX7_canReach_49 : decode mX7_canReach.cd 49 = .ok (.iadd, 1) := by decide +kernel
theorem dX7_canReach_50 : decode mX7_canReach.cd 50 = .ok (.istore_n 3, 1) := by decide +kernel
theorem dX7_canReach_51 : decode mX7_canReach.cd 51 = .ok (.iinc 4 1, 3) := by decide +kernel
theorem dX7_canReach_54 : decode mX7_canReach.cd 54 = .ok (.goto (-41), 3) := by decide +kernel
theorem dX7_canReach_57 : decode mX7_canReach.cd 57 = .ok (.iload_n 3, 1) := by decide +kernel
theorem dX7_canReach_58 : decode mX7_canReach.cd 58 = .ok (.iload_n 1, 1) := by decide +kernel
theorem dX7_canReach_59 : decode mX7_canReach.cd 59 = .ok (.if_icmp .lt 5, 3) := by decide +kernel
theorem dX7_canReach_62 : decode mX7_canReach.cd 62 = .ok (.iconst 1, 1) := by decide +kernel
theorem dX7_canReach_63 : decode mX7_canReach.cd 63 = .ok (.ireturn, 1) := by decide +kernel
theorem dX7_canReach_64 : decode mX7_canReach.cd 64 = .ok (.iinc 2 1, 3) := by decide +kernel
theorem dX7_canReach_67 : decode mX7_canReach.cd 67 = .ok (.goto (-65), 3) := by decide +kernel
theorem dX7_canReach_70 : decode mX7_canReach.cd 70 = .ok (.iconst 0, 1) := by decide +kernel
theorem dX7_canReach_71 : decode mX7_canReach.cd 71 = .ok (.ireturn, 1) := by decide +kernel
theorem bX7_canReach_0 {fr M1 M2 b1 b2 : Nat} {Q : RS → Nat → AH → Prop} {h : AH} {l0 l1 : Int} {x2 x3 x4 : AV}   (kk : Wp mX7_canReach (kR fr M1 M2) Q (b1, b2) 2 [zR l0, zI l1, zI 0, none, none] [] 137 h) : Wp mX7_canReach (kR fr M1 M2) Q (b1, b2) 0 [zR l0, zI l1, x2, x3, x4] [] 137 h := by
  refine s_fgt (fgt_c (fgt_c (fgt_n _ (fgt_n _ (fgt_n _ fgt_0))))) ?_
  refine s_iconst dX7_canReach_0 ?_
  refine s_istore_n dX7_canReach_1 rfl (by decide) ?_
  exact kk
theorem bX7_canReach_2 {fr M1 M2 b1 b2 : Nat} {Q : RS → Nat → AH → Prop} {h : AH} {l0 l1 l2 : Int} {x3 x4 : AV}  (r1 : -2147483648 ≤ l2 ∧ l2 < 2147483648 := by omega) (kt : 8 ≤ l2 → Wp mX7_canReach (kR fr M1 M2) Q (b1, b2) 70 [zR l0, zI l1, zI l2, none, none] [] 137 h) (kf : l2 < 8 → Wp mX7_canReach (kR fr M1 M2) Q (b1, b2) 8 [zR l0, zI l1, zI l2, none, none] [] 137 h) : Wp mX7_canReach (kR fr M1 M2) Q (b1, b2) 2 [zR l0, zI l1, zI l2, x3, x4] [] 137 h := by
  refine s_fgt (fgt_c (fgt_c (fgt_c (fgt_n _ (fgt_n _ fgt_0))))) ?_
  refine s_iload_n (x := l2) dX7_canReach_2 rfl ?_
  refine s_bipush dX7_canReach_3 (by decide) ?_
  exact s_icmp_ge (tgt := 70) dX7_canReach_5 (by decide) r1 ⟨by decide, by decide⟩ kt kf
theorem bX7_canReach_8 {fr M1 M2 b1 b2 : Nat} {Q : RS → Nat → AH → Prop} {h : AH} {l0 l1 l2 : Int} {x3 x4 : AV}   (kk : Wp mX7_canReach (kR fr M1 M2) Q (b1, b2) 13 [zR l0, zI l1, zI l2, zI 0, zI 0] [] 137 h) : Wp mX7_canReach (kR fr M1 M2) Q (b1, b2) 8 [zR l0, zI l1, zI l2, x3, x4] [] 137 h := by
  refine s_fgt (fgt_c (fgt_c (fgt_c (fgt_n _ (fgt_n _ fgt_0))))) ?_
  refine s_iconst dX7_canReach_8 ?_
  refine s_istore_n dX7_canReach_9 rfl (by decide) ?_
  refine s_iconst dX7_canReach_10 ?_
  refine s_istore dX7_canReach_11 rfl (by decide) ?_
  exact kk
theorem bX7_canReach_13 {fr M1 M2 b1 b2 : Nat} {Q : RS → Nat → AH → Prop} {h : AH} {l0 l1 l2 l3 l4 : Int} (c1 : cel 137 l0 (7, 9) := by first | assumption | omega) (r1 : -2147483648 ≤ l4 ∧ l4 < 2147483648 := by omega) (r2 : -2147483648 ≤ h l0 2 ∧ h l0 2 < 2147483648 := by omega) (kt : h l0 2 ≤ l4 → Wp mX7_canReach (kR fr M1 M2) Q (b1, b2) 57 [zR l0, zI l1, zI l2, zI l3, zI l4] [] 137 h) (kf : l4 < h l0 2 → Wp mX7_canReach (kR fr M1 M2) Q (b1, b2) 22 [zR l0, zI l1, zI l2, zI l3, zI l4] [] 137 h) : Wp mX7_canReach (kR fr M1 M2) Q (b1, b2) 13 [zR l0, zI l1, zI l2, zI l3, zI l4] [] 137 h := by
  refine s_iload (x := l4) dX7_canReach_13 rfl ?_
  refine s_aload_n (x := l0) dX7_canReach_15 rfl ?_
  refine s_get (c := l0) dX7_canReach_16 lX7_38 c1 (by decide) ?_
  exact s_icmp_ge (tgt := 57) dX7_canReach_19 (by decide) r1 r2 kt kf
theorem bX7_canReach_22 {fr M1 M2 b1 b2 : Nat} {Q : RS → Nat → AH → Prop} {h : AH} {l0 l1 l2 l3 l4 : Int} (c1 : cel 137 l0 (7, 9) := by first | assumption | omega) (r1 : 0 ≤ l4 ∧ l4 < 19 := by omega) (r2 : -2147483648 ≤ h (l0 + 1) l4 ∧ h (l0 + 1) l4 < 2147483648 := by omega) (kt : h (l0 + 1) l4 ≤ 0 → Wp mX7_canReach (kR fr M1 M2) Q (b1, b2) 48 [zR l0, zI l1, zI l2, zI l3, zI l4] [zI l3] 137 h) (kf : 0 < h (l0 + 1) l4 → Wp mX7_canReach (kR fr M1 M2) Q (b1, b2) 33 [zR l0, zI l1, zI l2, zI l3, zI l4] [zI l3] 137 h) : Wp mX7_canReach (kR fr M1 M2) Q (b1, b2) 22 [zR l0, zI l1, zI l2, zI l3, zI l4] [] 137 h := by
  refine s_iload_n (x := l3) dX7_canReach_22 rfl ?_
  refine s_aload_n (x := l0) dX7_canReach_23 rfl ?_
  refine s_getFd (c := l0) (d := l0 + 1) dX7_canReach_24 lX7_11 c1 (Or.inl rfl) rfl (ne0 (fin_X7_0 c1)) ?_
  refine s_iload (x := l4) dX7_canReach_27 rfl ?_
  refine s_iald (c := l0 + 1) (i := l4) dX7_canReach_29 (fin_X7_0 c1) r1.1 r1.2 ?_
  exact s_if_le (tgt := 48) dX7_canReach_30 (by decide) r2 kt kf
theorem bX7_canReach_33 {fr M1 M2 b1 b2 : Nat} {Q : RS → Nat → AH → Prop} {h : AH} {l0 l1 l2 l4 s0 : Int} {x3 : AV} (c1 : cel 137 l0 (7, 9) := by first | assumption | omega) (r1 : 0 ≤ (l4 * 8) + l2 ∧ (l4 * 8) + l2 < 152 := by omega) (kk : Wp mX7_canReach (kR fr M1 M2) Q (b1, b2) 49 [zR l0, zI l1, zI l2, none, zI l4] [zI (h (l0 + 2) ((l4 * 8) + l2)), zI s0] 137 h) : Wp mX7_canReach (kR fr M1 M2) Q (b1, b2) 33 [zR l0, zI l1, zI l2, x3, zI l4] [zI s0] 137 h := by
  refine s_fgt (fgt_c (fgt_c (fgt_c (fgt_n _ (fgt_c fgt_0))))) ?_
  refine s_aload_n (x := l0) dX7_canReach_33 rfl ?_
  refine s_getFd (c := l0) (d := l0 + 2) dX7_canReach_34 lX7_15 c1 (Or.inl rfl) rfl (ne0 (fin_X7_1 c1)) ?_
  refine s_iload (x := l4) dX7_canReach_37 rfl ?_
  refine s_bipush dX7_canReach_39 (by decide) ?_
  refine s_imul dX7_canReach_41 ?_
  refine s_iload_n (x := l2) dX7_canReach_42 rfl ?_
  refine s_iadd dX7_canReach_43 ?_
  refine s_iald (c := l0 + 2) (i := (l4 * 8) + l2) dX7_canReach_44 (fin_X7_1 c1) r1.1 r1.2 ?_
  exact s_goto (tgt := 49) dX7_canReach_45 (by decide) kk
theorem bX7_canReach_48 {fr M1 M2 b1 b2 : Nat} {Q : RS → Nat → AH → Prop} {h : AH} {l0 l1 l2 l4 s0 : Int} {x3 : AV}   (kk : Wp mX7_canReach (kR fr M1 M2) Q (b1, b2) 49 [zR l0, zI l1, zI l2, none, zI l4] [zI 0, zI s0] 137 h) : Wp mX7_canReach (kR fr M1 M2) Q (b1, b2) 48 [zR l0, zI l1, zI l2, x3, zI l4] [zI s0] 137 h := by
  refine s_fgt (fgt_c (fgt_c (fgt_c (fgt_n _ (fgt_c fgt_0))))) ?_
  refine s_iconst dX7_canReach_48 ?_
  exact kk
theorem bX7_canReach_49 {fr M1 M2 b1 b2 : Nat} {Q : RS → Nat → AH → Prop} {h : AH} {l0 l1 l2 l4 s1 s0 : Int} {x3 : AV}   (kk : Wp mX7_canReach (kR fr M1 M2) Q (b1, b2) 13 [zR l0, zI l1, zI l2, zI (s1 + s0), zI (l4 + 1)] [] 137 h) : Wp mX7_canReach (kR fr M1 M2) Q (b1, b2) 49 [zR l0, zI l1, zI l2, x3, zI l4] [zI s0, zI s1] 137 h := by
  refine s_fgt (fgt_c (fgt_c (fgt_c (fgt_n _ (fgt_c fgt_0))))) ?_
  refine s_iadd dX7_canReach_49 ?_
  refine s_istore_n dX7_canReach_50 rfl (by decide) ?_
  refine s_iinc (x := l4) dX7_canReach_51 rfl rfl (by decide) ?_
  exact s_goto (tgt := 13) dX7_canReach_54 (by decide) kk
theorem bX7_canReach_57 {fr M1 M2 b1 b2 : Nat} {Q : RS → Nat → AH → Prop} {h : AH} {l0 l1 l2 l3 : Int} {x4 : AV}  (r1 : -2147483648 ≤ l3 ∧ l3 < 2147483648 := by omega) (r2 : -2147483648 ≤ l1 ∧ l1 < 2147483648 := by omega) (kt : l3 < l1 → Wp mX7_canReach (kR fr M1 M2) Q (b1, b2) 64 [zR l0, zI l1, zI l2, zI l3, none] [] 137 h) (kf : l1 ≤ l3 → Wp mX7_canReach (kR fr M1 M2) Q (b1, b2) 62 [zR l0, zI l1, zI l2, zI l3, none] [] 137 h) : Wp mX7_canReach (kR fr M1 M2) Q (b1, b2) 57 [zR l0, zI l1, zI l2, zI l3, x4] [] 137 h := by
  refine s_fgt (fgt_c (fgt_c (fgt_c (fgt_c (fgt_n _ fgt_0))))) ?_
  refine s_iload_n (x := l3) dX7_canReach_57 rfl ?_
  refine s_iload_n (x := l1) dX7_canReach_58 rfl ?_
  exact s_icmp_lt (tgt := 64) dX7_canReach_59 (by decide) r1 r2 kt kf
theorem bX7_canReach_62 {fr M1 M2 b1 b2 : Nat} {Q : RS → Nat → AH → Prop} {h : AH} {x0 x1 x2 x3 x4 : AV}   (hq : Q (.inl (some (zI 1))) 137 h) : Wp mX7_canReach (kR fr M1 M2) Q (b1, b2) 62 [x0, x1, x2, x3, x4] [] 137 h := by
  refine s_fgt (fgt_n _ (fgt_n _ (fgt_n _ (fgt_n _ (fgt_n _ fgt_0))))) ?_
  refine s_iconst dX7_canReach_62 ?_
  exact s_ireturn dX7_canReach_63 ⟨.boolean, rfl, by decide⟩ hq (fun z => by cases z)
theorem bX7_canReach_64 {fr M1 M2 b1 b2 : Nat} {Q : RS → Nat → AH → Prop} {h : AH} {l0 l1 l2 : Int} {x3 x4 : AV}   (kk : Wp mX7_canReach (kR fr M1 M2) Q (b1, b2) 2 [zR l0, zI l1, zI (l2 + 1), none, none] [] 137 h) : Wp mX7_canReach (kR fr M1 M2) Q (b1, b2) 64 [zR l0, zI l1, zI l2, x3, x4] [] 137 h := by
  refine s_fgt (fgt_c (fgt_c (fgt_c (fgt_n _ (fgt_n _ fgt_0))))) ?_
  refine s_iinc (x := l2) dX7_canReach_64 rfl rfl (by decide) ?_
  exact s_goto (tgt := 2) dX7_canReach_67 (by decide) kk
theorem bX7_canReach_70 {fr M1 M2 b1 b2 : Nat} {Q : RS → Nat → AH → Prop} {h : AH} {x0 x1 x2 x3 x4 : AV}   (hq : Q (.inl (some (zI 0))) 137 h) : Wp mX7_canReach (kR fr M1 M2) Q (b1, b2) 70 [x0, x1, x2, x3, x4] [] 137 h := by
  refine s_fgt (fgt_n _ (fgt_n _ (fgt_n _ (fgt_n _ (fgt_n _ fgt_0))))) ?_
  refine s_iconst dX7_canReach_70 ?_
  exact s_ireturn dX7_canReach_71 ⟨.boolean, rfl, by decide⟩ hq (fun z => by cases z)
theorem dX7_prepareLike_0 : decode mX7_prepareLike.cd 0 = .ok (.aload_n 0, 1) := by decide +kernel
theorem dX7_prepareLike_1 : decode mX7_prepareLike.cd 1 = .ok (.iconst 0, 1) := by decide +kernel
theorem dX7_prepareLike_2 : decode mX7_prepareLike.cd 2 = .ok (.putfield 21, 3) := by decide +kernel
theorem dX7_prepareLike_5 : decode mX7_prepareLike.cd 5 = .ok (.iconst 0, 1) := by decide +kernel
theorem dX7_prepareLike_6 : decode mX7_prepareLike.cd 6 = .ok (.istore 4, 2) := by decide +kernel
theorem dX7_prepareLike_8 : decode mX7_prepareLike.cd 8 = .ok (.iload 4, 2) := by decide +kernel
theorem dX7_prepareLike_10 : decode mX7_prepareLike.cd 10 = .ok (.aload_n 1, 1) := by decide +kernel
theorem dX7_prepareLike_11 : decode mX7_prepareLike.cd 11 = .ok (.getfield 51, 3) := by decide +kernel
theorem dX7_prepareLike_14 : decode mX7_prepareLike.cd 14 = .ok (.if_icmp .ge 72, 3) := by decide +kernel
theorem dX7_prepareLike_17 : decode mX7_prepareLike.cd 17 = .ok (.aload_n 0, 1) := by decide +kernel
theorem dX7_prepareLike_18 : decode mX7_prepareLike.cd 18 = .ok (.getfield 15, 3) := by decide +kernel
theorem dX7_prepareLike_21 : decode mX7_prepareLike.cd 21 = .ok (.iload 4, 2) := by decide +kernel
theorem dX7_prepareLike_23 : decode mX7_prepareLike.cd 23 = .ok (.aload_n 1, 1) := by decide +kernel
theorem dX7_prepareLike_24 : decode mX7_prepareLike.cd 24 = .ok (.getfield 50, 3) := by decide +kernel
theorem dX7_prepareLike_27 : decode mX7_prepareLike.cd 27 = .ok (.iload 4, 2) := by decide +kernel
theorem dX7_prepareLike_29 : decode mX7_prepareLike.cd 29 = .ok (.iaload, 1) := by decide +kernel
theorem dX7_prepareLike_30 : decode mX7_prepareLike.cd 30 = .ok (.iastore, 1) := by decide +kernel
theorem dX7_prepareLike_31 : decode mX7_prepareLike.cd 31 = .ok (.aload_n 1, 1) := by decide +kernel
theorem dX7_prepareLike_32 : decode mX7_prepareLike.cd 32 = .ok (.getfield 50, 3) := by decide +kernel
theorem dX7_prepareLike_35 : decode mX7_prepareLike.cd 35 = .ok (.iload 4, 2) := by decide +kernel
theorem dX7_prepareLike_37 : decode mX7_prepareLike.cd 37 = .ok (.iaload, 1) := by decide +kernel
theorem dX7_prepareLike_38 : decode mX7_prepareLike.cd 38 = .ok (.iload_n 2, 1) := by decide +kernel
theorem dX7_prepareLike_39 : decode mX7_prepareLike.cd 39 = .ok (.imul, 1) := by decide +kernel
theorem dX7_prepareLike_40 : decode mX7_prepareLike.cd 40 = .ok (.bipush 100, 2) := by decide +kernel
theorem dX7_prepareLike_42 : decode mX7_prepareLike.cd 42 = .ok (.idiv, 1) := by decide +kernel
theorem dX7_prepareLike_43 : decode mX7_prepareLike.cd 43 = .ok (.iload_n 3, 1) := by decide +kernel
theorem dX7_prepareLike_44 : decode mX7_prepareLike.cd 44 = .ok (.imul, 1) := by decide +kernel
theorem dX7_prepareLike_45 : decode mX7_prepareLike.cd 45 = .ok (.bipush 100, 2) := by decide +kernel
theorem dX7_prepareLike_47 : decode mX7_prepareLike.cd 47 = .ok (.idiv, 1) := by decide +kernel
theorem dX7_prepareLike_48 : decode mX7_prepareLike.cd 48 = .ok (.istore 5, 2) := by decide +kernel
theorem dX7_prepareLike_50 : decode mX7_prepareLike.cd 50 = .ok (.iconst 1, 1) := by decide +kernel
theorem dX7_prepareLike_51 : decode mX7_prepareLike.cd 51 = .ok (.istore 6, 2) := by decide +kernel
theorem dX7_prepareLike_53 : decode mX7_prepareLike.cd 53 = .ok (.iload 6, 2) := by decide +kernel
theorem dX7_prepareLike_55 : decode mX7_prepareLike.cd 55 = .ok (.iconst 3, 1) := by decide +kernel
theorem dX7_prepareLike_56 : decode mX7_prepareLike.cd 56 = .ok (.if_icmp .gt 24, 3) := by decide +kernel
theorem dX7_prepareLike_59 : decode mX7_prepareLike.cd 59 = .ok (.aload_n 0, 1) := by decide +kernel
theorem dX7_prepareLike_60 : decode mX7_prepareLike.cd 60 = .ok (.getfield 15, 3) := by decide +kernel
theorem dX7_prepareLike_63 : decode mX7_prepareLike.cd 63 = .ok (.iload 6, 2) := by decide +kernel
theorem dX7_prepareLike_65 : decode mX7_prepareLike.cd 65 = .ok (.bipush 8, 2) := by decide +kernel
theorem dX7_prepareLike_67 : decode mX7_prepareLike.cd 67 = .ok (.imul, 1) := by decide +kernel
theorem dX7_prepareLike_68 : decode mX7_prepareLike.cd 68 = .ok (.iload 4, 2) := by decide +kernel
theorem dX7_prepareLike_70 : decode mX7_prepareLike.cd 70 = .ok (.iadd, 1) := by decide +kernel
theorem dX7_prepareLike_71 : decode mX7_prepareLike.cd 71 = .ok (.iload 5, 2) := by decide +kernel
theorem dX7_prepareLike_73 : decode mX7_prepareLike.cd 73 = .ok (.iastore, 1) := by decide +kernel
theorem dX7_prepareLike_74 : decode mX7_prepareLike.cd 74 = .ok (.iinc 6 1, 3) := by decide +kernel
theorem dX7_prepareLike_77 : decode mX7_prepareLike.cd 77 = .ok (.goto (-24), 3) := by decide +kernel
theorem dX7_prepareLike_80 : decode mX7_prepareLike.cd 80 = .ok (.iinc 4 1, 3) := by decide +kernel
theorem dX7_prepareLike_83 : decode mX7_prepareLike.cd 83 = .ok (.goto (-75), 3) := by decide +kernel
theorem dX7_prepareLike_86 : decode mX7_prepareLike.cd 86 = .ok (.aload_n 0, 1) := by decide +kernel
theorem dX7_prepareLike_87 : decode mX7_prepareLike.cd 87 = .ok (.getfield 11, 3) := by decide +kernel
theorem dX7_prepareLike_90 : decode mX7_prepareLike.cd 90 = .ok (.iconst 0, 1) := by decide +kernel
theorem dX7_prepareLike_91 : decode mX7_prepareLike.cd 91 = .ok (.iconst 0, 1) := by decide +kernel
theorem dX7_prepareLike_92 : decode mX7_prepareLike.cd 92 = .ok (.iastore, 1) := by decide +kernel
theorem dX7_prepareLike_93 : decode mX7_prepareLike.cd 93 = .ok (.aload_n 0, 1) := by decide +kernel
theorem dX7_prepareLike_94 : decode mX7_prepareLike.cd 94 = .ok (.iconst 1, 1) := by decide +kernel
theorem dX7_prepareLike_95 : decode mX7_prepareLike.cd 95 = .ok (.putfield 38, 3) := by decide +kernel
theorem dX7_prepareLike_98 : decode mX7_prepareLike.cd 98 = .ok (.return_, 1) := by decide +kernel
theorem bX7_prepareLike_0 {fr M1 M2 b1 b2 : Nat} {Q : RS → Nat → AH → Prop} {h : AH} {l0 l1 l2 l3 : Int} {x4 x5 x6 : AV} (c1 : cel 137 l0 (7, 9) := by first | assumption | omega)  (kk : Wp mX7_prepareLike (kR fr M1 M2) Q (b1, b2) 8 [zR l0, zR l1, zI l2, zI l3, zI 0, none, none] [] 137 (up h l0 4 0)) : Wp mX7_prepareLike (kR fr M1 M2) Q (b1, b2) 0 [zR l0, zR l1, zI l2, zI l3, x4, x5, x6] [] 137 h := by
  refine s_fgt (fgt_c (fgt_c (fgt_c (fgt_c (fgt_n _ (fgt_n _ (fgt_n _ fgt_0))))))) ?_
  refine s_aload_n (x := l0) dX7_prepareLike_0 rfl ?_
  refine s_iconst dX7_prepareLike_1 ?_
  refine s_putZ (c := l0) dX7_prepareLike_2 lX7_21 c1 (by decide) ?_
  refine s_iconst dX7_prepareLike_5 ?_
  refine s_istore dX7_prepareLike_6 rfl (by decide) ?_
  exact kk
theorem bX7_prepareLike_8 {fr M1 M2 b1 b2 : Nat} {Q : RS → Nat → AH → Prop} {h : AH} {l0 l1 l2 l3 l4 : Int} {x5 x6 : AV} (c1 : cel 137 l1 (2, 21) := by first | assumption | omega) (r1 : -2147483648 ≤ l4 ∧ l4 < 2147483648 := by omega) (r2 : -2147483648 ≤ h l1 0 ∧ h l1 0 < 2147483648 := by omega) (kt : h l1 0 ≤ l4 → Wp mX7_prepareLike (kR fr M1 M2) Q (b1, b2) 86 [zR l0, zR l1, zI l2, zI l3, zI l4, none, none] [] 137 h) (kf : l4 < h l1 0 → Wp mX7_prepareLike (kR fr M1 M2) Q (b1, b2) 17 [zR l0, zR l1, zI l2, zI l3, zI l4, none, none] [] 137 h) : Wp mX7_prepareLike (kR fr M1 M2) Q (b1, b2) 8 [zR l0, zR l1, zI l2, zI l3, zI l4, x5, x6] [] 137 h := by
  refine s_fgt (fgt_c (fgt_c (fgt_c (fgt_c (fgt_c (fgt_n _ (fgt_n _ fgt_0))))))) ?_
  refine s_iload (x := l4) dX7_prepareLike_8 rfl ?_
  refine s_aload_n (x := l1) dX7_prepareLike_10 rfl ?_
  refine s_get (c := l1) dX7_prepareLike_11 lX7_51 c1 (by decide) ?_
  exact s_icmp_ge (tgt := 86) dX7_prepareLike_14 (by decide) r1 r2 kt kf
theorem bX7_prepareLike_17 {fr M1 M2 b1 b2 : Nat} {Q : RS → Nat → AH → Prop} {h : AH} {l0 l1 l2 l3 l4 : Int} {x5 x6 : AV} (c1 : cel 137 l0 (7, 9) := by first | assumption | omega) (c2 : cel 137 l1 (2, 21) := by first | assumption | omega) (r1 : 0 ≤ l4 ∧ l4 < 8 := by omega) (r2 : 0 ≤ l4 ∧ l4 < 152 := by omega) (r3 : 0 ≤ ((up h (l0 + 2) l4 (h (l1 + 1) l4)) (l1 + 1) l4) * l2 ∧ ((up h (l0 + 2) l4 (h (l1 + 1) l4)) (l1 + 1) l4) * l2 < 2147483648 := by omega) (r4 : 0 ≤ ((((up h (l0 + 2) l4 (h (l1 + 1) l4)) (l1 + 1) l4) * l2) / 100) * l3 ∧ ((((up h (l0 + 2) l4 (h (l1 + 1) l4)) (l1 + 1) l4) * l2) / 100) * l3 < 2147483648 := by omega) (kk : Wp mX7_prepareLike (kR fr M1 M2) Q (b1, b2) 53 [zR l0, zR l1, zI l2, zI l3, zI l4, zI ((((((up h (l0 + 2) l4 (h (l1 + 1) l4)) (l1 + 1) l4) * l2) / 100) * l3) / 100), zI 1] [] 137 (up h (l0 + 2) l4 (h (l1 + 1) l4))) : Wp mX7_prepareLike (kR fr M1 M2) Q (b1, b2) 17 [zR l0, zR l1, zI l2, zI l3, zI l4, x5, x6] [] 137 h := by
  refine s_fgt (fgt_c (fgt_c (fgt_c (fgt_c (fgt_c (fgt_n _ (fgt_n _ fgt_0))))))) ?_
  refine s_aload_n (x := l0) dX7_prepareLike_17 rfl ?_
  refine s_getFd (c := l0) (d := l0 + 2) dX7_prepareLike_18 lX7_15 c1 (Or.inl rfl) rfl (ne0 (fin_X7_1 c1)) ?_
  refine s_iload (x := l4) dX7_prepareLike_21 rfl ?_
  refine s_aload_n (x := l1) dX7_prepareLike_23 rfl ?_
  refine s_getFd (c := l1) (d := l1 + 1) dX7_prepareLike_24 lX7_50 c2 (Or.inl rfl) rfl (ne0 (fin_X2_7 c2)) ?_
  refine s_iload (x := l4) dX7_prepareLike_27 rfl ?_
  refine s_iald (c := l1 + 1) (i := l4) dX7_prepareLike_29 (fin_X2_7 c2) r1.1 r1.2 ?_
  refine s_iast (c := l0 + 2) (i := l4) dX7_prepareLike_30 (fin_X7_1 c1) r2.1 r2.2 ?_
  refine s_aload_n (x := l1) dX7_prepareLike_31 rfl ?_
  refine s_getFd (c := l1) (d := l1 + 1) dX7_prepareLike_32 lX7_50 c2 (Or.inl rfl) rfl (ne0 (fin_X2_7 c2)) ?_
  refine s_iload (x := l4) dX7_prepareLike_35 rfl ?_
  refine s_iald (c := l1 + 1) (i := l4) dX7_prepareLike_37 (fin_X2_7 c2) r1.1 r1.2 ?_
  refine s_iload_n (x := l2) dX7_prepareLike_38 rfl ?_
  refine s_imul dX7_prepareLike_39 ?_
  refine s_bipush dX7_prepareLike_40 (by decide) ?_
  refine s_idivN dX7_prepareLike_42 r3.1 r3.2 (by decide) (by decide) ?_
  refine s_iload_n (x := l3) dX7_prepareLike_43 rfl ?_
  refine s_imul dX7_prepareLike_44 ?_
  refine s_bipush dX7_prepareLike_45 (by decide) ?_
  refine s_idivN dX7_prepareLike_47 r4.1 r4.2 (by decide) (by decide) ?_
  refine s_istore dX7_prepareLike_48 rfl (by decide) ?_
  refine s_iconst dX7_prepareLike_50 ?_
  refine s_istore dX7_prepareLike_51 rfl (by decide) ?_
  exact kk
theorem bX7_prepareLike_53 {fr M1 M2 b1 b2 : Nat} {Q : RS → Nat → AH → Prop} {h : AH} {l0 l1 l2 l3 l4 l5 l6 : Int}  (r1 : -2147483648 ≤ l6 ∧ l6 < 2147483648 := by omega) (kt : 3 < l6 → Wp mX7_prepareLike (kR fr M1 M2) Q (b1, b2) 80 [zR l0, zR l1, zI l2, zI l3, zI l4, zI l5, zI l6] [] 137 h) (kf : l6 ≤ 3 → Wp mX7_prepareLike (kR fr M1 M2) Q (b1, b2) 59 [zR l0, zR l1, zI l2, zI l3, zI l4, zI l5, zI l6] [] 137 h) : Wp mX7_prepareLike (kR fr M1 M2) Q (b1, b2) 53 [zR l0, zR l1, zI l2, zI l3, zI l4, zI l5, zI l6] [] 137 h := by
  refine s_iload (x := l6) dX7_prepareLike_53 rfl ?_
  refine s_iconst dX7_prepareLike_55 ?_
  exact s_icmp_gt (tgt := 80) dX7_prepareLike_56 (by decide) r1 ⟨by decide, by decide⟩ kt kf
theorem bX7_prepareLike_59 {fr M1 M2 b1 b2 : Nat} {Q : RS → Nat → AH → Prop} {h : AH} {l0 l1 l2 l3 l4 l5 l6 : Int} (c1 : cel 137 l0 (7, 9) := by first | assumption | omega) (r1 : 0 ≤ (l6 * 8) + l4 ∧ (l6 * 8) + l4 < 152 := by omega) (kk : Wp mX7_prepareLike (kR fr M1 M2) Q (b1, b2) 53 [zR l0, zR l1, zI l2, zI l3, zI l4, zI l5, zI (l6 + 1)] [] 137 (up h (l0 + 2) ((l6 * 8) + l4) l5)) : Wp mX7_prepareLike (kR fr M1 M2) Q (b1, b2) 59 [zR l0, zR l1, zI l2, zI l3, zI l4, zI l5, zI l6] [] 137 h := by
  refine s_aload_n (x := l0) dX7_prepareLike_59 rfl ?_
  refine s_getFd (c := l0) (d := l0 + 2) dX7_prepareLike_60 lX7_15 c1 (Or.inl rfl) rfl (ne0 (fin_X7_1 c1)) ?_
  refine s_iload (x := l6) dX7_prepareLike_63 rfl ?_
  refine s_bipush dX7_prepareLike_65 (by decide) ?_
  refine s_imul dX7_prepareLike_67 ?_
  refine s_iload (x := l4) dX7_prepareLike_68 rfl ?_
  refine s_iadd dX7_prepareLike_70 ?_
  refine s_iload (x := l5) dX7_prepareLike_71 rfl ?_
  refine s_iast (c := l0 + 2) (i := (l6 * 8) + l4) dX7_prepareLike_73 (fin_X7_1 c1) r1.1 r1.2 ?_
  refine s_iinc (x := l6) dX7_prepareLike_74 rfl rfl (by decide) ?_
  exact s_goto (tgt := 53) dX7_prepareLike_77 (by decide) kk
theorem bX7_prepareLike_80 {fr M1 M2 b1 b2 : Nat} {Q : RS → Nat → AH → Prop} {h : AH} {l0 l1 l2 l3 l4 : Int} {x5 x6 : AV}   (kk : Wp mX7_prepareLike (kR fr M1 M2) Q (b1, b2) 8 [zR l0, zR l1, zI l2, zI l3, zI (l4 + 1), none, none] [] 137 h) : Wp mX7_prepareLike (kR fr M1 M2) Q (b1, b2) 80 [zR l0, zR l1, zI l2, zI l3, zI l4, x5, x6] [] 137 h := by
  refine s_fgt (fgt_c (fgt_c (fgt_c (fgt_c (fgt_c (fgt_n _ (fgt_n _ fgt_0))))))) ?_
  refine s_iinc (x := l4) dX7_prepareLike_80 rfl rfl (by decide) ?_
  exact s_goto (tgt := 8) dX7_prepareLike_83 (by decide) kk
theorem bX7_prepareLike_86 {fr M1 M2 b1 b2 : Nat} {Q : RS → Nat → AH → Prop} {h : AH} {l0 : Int} {x1 x2 x3 x4 x5 x6 : AV} (c1 : cel 137 l0 (7, 9) := by first | assumption | omega)  (hq : Q (.inl none) 137 (up (up h (l0 + 1) 0 0) l0 2 1)) : Wp mX7_prepareLike (kR fr M1 M2) Q (b1, b2) 86 [zR l0, x1, x2, x3, x4, x5, x6] [] 137 h := by
  refine s_fgt (fgt_c (fgt_n _ (fgt_n _ (fgt_n _ (fgt_n _ (fgt_n _ (fgt_n _ fgt_0))))))) ?_
  refine s_aload_n (x := l0) dX7_prepareLike_86 rfl ?_
  refine s_getFd (c := l0) (d := l0 + 1) dX7_prepareLike_87 lX7_11 c1 (Or.inl rfl) rfl (ne0 (fin_X7_0 c1)) ?_
  refine s_iconst dX7_prepareLike_90 ?_
  refine s_iconst dX7_prepareLike_91 ?_
  refine s_iast (c := l0 + 1) (i := 0) dX7_prepareLike_92 (fin_X7_0 c1) (by decide) (by decide) ?_
  refine s_aload_n (x := l0) dX7_prepareLike_93 rfl ?_
  refine s_iconst dX7_prepareLike_94 ?_
  refine s_put (c := l0) dX7_prepareLike_95 lX7_38 c1 ?_
  exact s_return dX7_prepareLike_98 rfl hq (fun z => by cases z)
theorem dX7_layDelays_0 : decode mX7_layDelays.cd 0 = .ok (.aload_n 0, 1) := by decide +kernel
theorem dX7_layDelays_1 : decode mX7_layDelays.cd 1 = .ok (.iconst 1, 1) := by decide +kernel
theorem dX7_layDelays_2 : decode mX7_layDelays.cd 2 = .ok (.putfield 38, 3) := by decide +kernel
theorem dX7_layDelays_5 : decode mX7_layDelays.cd 5 = .ok (.iload_n 1, 1) := by decide +kernel
theorem dX7_layDelays_6 : decode mX7_layDelays.cd 6 = .ok (.ifCond .le 20, 3) := by decide +kernel
theorem dX7_layDelays_9 : decode mX7_layDelays.cd 9 = .ok (.aload_n 0, 1) := by decide +kernel
theorem dX7_layDelays_10 : decode mX7_layDelays.cd 10 = .ok (.getfield 11, 3) := by decide +kernel
theorem dX7_layDelays_13 : decode mX7_layDelays.cd 13 = .ok (.aload_n 0, 1) := by decide +kernel
theorem dX7_layDelays_14 : decode mX7_layDelays.cd 14 = .ok (.dup, 1) := by decide +kernel
theorem dX7_layDelays_15 : decode mX7_layDelays.cd 15 = .ok (.getfield 38, 3) := by decide +kernel
theorem dX7_layDelays_18 : decode mX7_layDelays.cd 18 = .ok (.dup_x1, 1) := by decide +kernel
theorem dX7_layDelays_19 : decode mX7_layDelays.cd 19 = .ok (.iconst 1, 1) := by decide +kernel
theorem dX7_layDelays_20 : decode mX7_layDelays.cd 20 = .ok (.iadd, 1) := by decide +kernel
theorem dX7_layDelays_21 : decode mX7_layDelays.cd 21 = .ok (.putfield 38, 3) := by decide +kernel
theorem dX7_layDelays_24 : decode mX7_layDelays.cd 24 = .ok (.iload_n 1, 1) := by decide +kernel
theorem dX7_layDelays_25 : decode mX7_layDelays.cd 25 = .ok (.iastore, 1) := by decide +kernel
theorem dX7_layDelays_26 : decode mX7_layDelays.cd 26 = .ok (.iload_n 2, 1) := by decide +kernel
theorem dX7_layDelays_27 : decode mX7_layDelays.cd 27 = .ok (.ifCond .le 20, 3) := by decide +kernel
theorem dX7_layDelays_30 : decode mX7_layDelays.cd 30 = .ok (.aload_n 0, 1) := by decide +kernel
theorem dX7_layDelays_31 : decode mX7_layDelays.cd 31 = .ok (.getfield 11, 3) := by decide +kernel
theorem dX7_layDelays_34 : decode mX7_layDelays.cd 34 = .ok (.aload_n 0, 1) := by decide +kernel
theorem dX7_layDelays_35 : decode mX7_layDelays.cd 35 = .ok (.dup, 1) := by decide +kernel
theorem dX7_layDelays_36 : decode mX7_layDelays.cd 36 = .ok (.getfield 38, 3) := by decide +kernel
theorem dX7_layDelays_39 : decode mX7_layDelays.cd 39 = .ok (.dup_x1, 1) := by decide +kernel
theorem dX7_layDelays_40 : decode mX7_layDelays.cd 40 = .ok (.iconst 1, 1) := by decide +kernel
theorem dX7_layDelays_41 : decode mX7_layDelays.cd 41 = .ok (.iadd, 1) := by decide +kernel
theorem dX7_layDelays_42 : decode mX7_layDelays.cd 42 = .ok (.putfield 38, 3) := by decide +kernel
theorem dX7_layDelays_45 : decode mX7_layDelays.cd 45 = .ok (.iload_n 2, 1) := by decide +kernel
theorem dX7_layDelays_46 : decode mX7_layDelays.cd 46 = .ok (.iastore, 1) := by decide +kernel
theorem dX7_layDelays_47 : decode mX7_layDelays.cd 47 = .ok (.iload_n 3, 1) := by decide +kernel
theorem dX7_layDelays_48 : decode mX7_layDelays.cd 48 = .ok (.ifCond .le 20, 3) := by decide +kernel
theorem dX7_layDelays_51 : decode mX7_layDelays.cd 51 = .ok (.aload_n 0, 1) := by decide +kernel
theorem dX7_layDelays_52 : decode mX7_layDelays.cd 52 = .ok (.getfield 11, 3) := by decide +kernel
theorem dX7_layDelays_55 : decode mX7_layDelays.cd 55 = .ok (.aload_n 0, 1) := by decide +kernel
theorem dX7_layDelays_56 : decode mX7_layDelays.cd 56 = .ok (.dup, 1) := by decide +kernel
theorem dX7_layDelays_57 : decode mX7_layDelays.cd 57 = .ok (.getfield 38, 3) := by decide +kernel
theorem dX7_layDelays_60 : decode mX7_layDelays.cd 60 = .ok (.dup_x1, 1) := by decide +kernel
theorem dX7_layDelays_61 : decode mX7_layDelays.cd 61 = .ok (.iconst 1, 1) := by decide +kernel
theorem dX7_layDelays_62 : decode mX7_layDelays.cd 62 = .ok (.iadd, 1) := by decide +kernel
theorem dX7_layDelays_63 : decode mX7_layDelays.cd 63 = .ok (.putfield 38, 3) := by decide +kernel
theorem dX7_layDelays_66 : decode mX7_layDelays.cd 66 = .ok (.iload_n 3, 1) := by decide +kernel
theorem dX7_layDelays_67 : decode mX7_layDelays.cd 67 = .ok (.iastore, 1) := by decide +kernel
theorem dX7_layDelays_68 : decode mX7_layDelays.cd 68 = .ok (.return_, 1) := by decide +kernel
theorem bX7_layDelays_0 {fr M1 M2 b1 b2 : Nat} {Q : RS → Nat → AH → Prop} {h : AH} {l0 l1 l2 l3 : Int} (c1 : cel 137 l0 (7, 9) := by first | assumption | omega) (r1 : -2147483648 ≤ l1 ∧ l1 < 2147483648 := by omega) (kt : l1 ≤ 0 → Wp mX7_layDelays (kR fr M1 M2) Q (b1, b2) 26 [zR l0, zI l1, zI l2, zI l3] [] 137 (up h l0 2 1)) (kf : 0 < l1 → Wp mX7_layDelays (kR fr M1 M2) Q (b1, b2) 9 [zR l0, zI l1, zI l2, zI l3] [] 137 (up h l0 2 1)) : Wp mX7_layDelays (kR fr M1 M2) Q (b1, b2) 0 [zR l0, zI l1, zI l2, zI l3] [] 137 h := by
  refine s_aload_n (x := l0) dX7_layDelays_0 rfl ?_
  refine s_iconst dX7_layDelays_1 ?_
  refine s_put (c := l0) dX7_layDelays_2 lX7_38 c1 ?_
  refine s_iload_n (x := l1) dX7_layDelays_5 rfl ?_
  exact s_if_le (tgt := 26) dX7_layDelays_6 (by decide) r1 kt kf
theorem bX7_layDelays_9 {fr M1 M2 b1 b2 : Nat} {Q : RS → Nat → AH → Prop} {h : AH} {l0 l1 l2 l3 : Int} (c1 : cel 137 l0 (7, 9) := by first | assumption | omega) (r1 : 0 ≤ h l0 2 ∧ h l0 2 < 19 := by omega) (kk : Wp mX7_layDelays (kR fr M1 M2) Q (b1, b2) 26 [zR l0, zI l1, zI l2, zI l3] [] 137 (up (up h l0 2 ((h l0 2) + 1)) (l0 + 1) (h l0 2) l1)) : Wp mX7_layDelays (kR fr M1 M2) Q (b1, b2) 9 [zR l0, zI l1, zI l2, zI l3] [] 137 h := by
  refine s_aload_n (x := l0) dX7_layDelays_9 rfl ?_
  refine s_getFd (c := l0) (d := l0 + 1) dX7_layDelays_10 lX7_11 c1 (Or.inl rfl) rfl (ne0 (fin_X7_0 c1)) ?_
  refine s_aload_n (x := l0) dX7_layDelays_13 rfl ?_
  refine s_dup dX7_layDelays_14 rfl ?_
  refine s_get (c := l0) dX7_layDelays_15 lX7_38 c1 (by decide) ?_
  refine s_dup_x1 dX7_layDelays_18 rfl rfl ?_
  refine s_iconst dX7_layDelays_19 ?_
  refine s_iadd dX7_layDelays_20 ?_
  refine s_put (c := l0) dX7_layDelays_21 lX7_38 c1 ?_
  refine s_iload_n (x := l1) dX7_layDelays_24 rfl ?_
  refine s_iast (c := l0 + 1) (i := h l0 2) dX7_layDelays_25 (fin_X7_0 c1) r1.1 r1.2 ?_
  exact kk
theorem bX7_layDelays_26 {fr M1 M2 b1 b2 : Nat} {Q : RS → Nat → AH → Prop} {h : AH} {l0 l2 l3 : Int} {x1 : AV}  (r1 : -2147483648 ≤ l2 ∧ l2 < 2147483648 := by omega) (kt : l2 ≤ 0 → Wp mX7_layDelays (kR fr M1 M2) Q (b1, b2) 47 [zR l0, none, zI l2, zI l3] [] 137 h) (kf : 0 < l2 → Wp mX7_layDelays (kR fr M1 M2) Q (b1, b2) 30 [zR l0, none, zI l2, zI l3] [] 137 h) : Wp mX7_layDelays (kR fr M1 M2) Q (b1, b2) 26 [zR l0, x1, zI l2, zI l3] [] 137 h := by
  refine s_fgt (fgt_c (fgt_n _ (fgt_c (fgt_c fgt_0)))) ?_
  refine s_iload_n (x := l2) dX7_layDelays_26 rfl ?_
  exact s_if_le (tgt := 47) dX7_layDelays_27 (by decide) r1 kt kf
theorem bX7_layDelays_30 {fr M1 M2 b1 b2 : Nat} {Q : RS → Nat → AH → Prop} {h : AH} {l0 l2 l3 : Int} {x1 : AV} (c1 : cel 137 l0 (7, 9) := by first | assumption | omega) (r1 : 0 ≤ h l0 2 ∧ h l0 2 < 19 := by omega) (kk : Wp mX7_layDelays (kR fr M1 M2) Q (b1, b2) 47 [zR l0, none, zI l2, zI l3] [] 137 (up (up h l0 2 ((h l0 2) + 1)) (l0 + 1) (h l0 2) l2)) : Wp mX7_layDelays (kR fr M1 M2) Q (b1, b2) 30 [zR l0, x1, zI l2, zI l3] [] 137 h := by
  refine s_fgt (fgt_c (fgt_n _ (fgt_c (fgt_c fgt_0)))) ?_
  refine s_aload_n (x := l0) dX7_layDelays_30 rfl ?_
  refine s_getFd (c := l0) (d := l0 + 1) dX7_layDelays_31 lX7_11 c1 (Or.inl rfl) rfl (ne0 (fin_X7_0 c1)) ?_
  refine s_aload_n (x := l0) dX7_layDelays_34 rfl ?_
  refine s_dup dX7_layDelays_35 rfl ?_
  refine s_get (c := l0) dX7_layDelays_36 lX7_38 c1 (by decide) ?_
  refine s_dup_x1 dX7_layDelays_39 rfl rfl ?_
  refine s_iconst dX7_layDelays_40 ?_
  refine s_iadd dX7_layDelays_41 ?_
  refine s_put (c := l0) dX7_layDelays_42 lX7_38 c1 ?_
  refine s_iload_n (x := l2) dX7_layDelays_45 rfl ?_
  refine s_iast (c := l0 + 1) (i := h l0 2) dX7_layDelays_46 (fin_X7_0 c1) r1.1 r1.2 ?_
  exact kk
theorem bX7_layDelays_47 {fr M1 M2 b1 b2 : Nat} {Q : RS → Nat → AH → Prop} {h : AH} {l0 l3 : Int} {x1 x2 : AV}  (r1 : -2147483648 ≤ l3 ∧ l3 < 2147483648 := by omega) (kt : l3 ≤ 0 → Wp mX7_layDelays (kR fr M1 M2) Q (b1, b2) 68 [zR l0, none, none, zI l3] [] 137 h) (kf : 0 < l3 → Wp mX7_layDelays (kR fr M1 M2) Q (b1, b2) 51 [zR l0, none, none, zI l3] [] 137 h) : Wp mX7_layDelays (kR fr M1 M2) Q (b1, b2) 47 [zR l0, x1, x2, zI l3] [] 137 h := by
  refine s_fgt (fgt_c (fgt_n _ (fgt_n _ (fgt_c fgt_0)))) ?_
  refine s_iload_n (x := l3) dX7_layDelays_47 rfl ?_
  exact s_if_le (tgt := 68) dX7_layDelays_48 (by decide) r1 kt kf
theorem bX7_layDelays_51 {fr M1 M2 b1 b2 : Nat} {Q : RS → Nat → AH → Prop} {h : AH} {l0 l3 : Int} {x1 x2 : AV} (c1 : cel 137 l0 (7, 9) := by first | assumption | omega) (r1 : 0 ≤ h l0 2 ∧ h l0 2 < 19 := by omega) (kk : Wp mX7_layDelays (kR fr M1 M2) Q (b1, b2) 68 [zR l0, none, none, zI l3] [] 137 (up (up h l0 2 ((h l0 2) + 1)) (l0 + 1) (h l0 2) l3)) : Wp mX7_layDelays (kR fr M1 M2) Q (b1, b2) 51 [zR l0, x1, x2, zI l3] [] 137 h := by
  refine s_fgt (fgt_c (fgt_n _ (fgt_n _ (fgt_c fgt_0)))) ?_
  refine s_aload_n (x := l0) dX7_layDelays_51 rfl ?_
  refine s_getFd (c := l0) (d := l0 + 1) dX7_layDelays_52 lX7_11 c1 (Or.inl rfl) rfl (ne0 (fin_X7_0 c1)) ?_
  refine s_aload_n (x := l0) dX7_layDelays_55 rfl ?_
  refine s_dup dX7_layDelays_56 rfl ?_
  refine s_get (c := l0) dX7_layDelays_57 lX7_38 c1 (by decide) ?_
  refine s_dup_x1 dX7_layDelays_60 rfl rfl ?_
  refine s_iconst dX7_layDelays_61 ?_
  refine s_iadd dX7_layDelays_62 ?_
  refine s_put (c := l0) dX7_layDelays_63 lX7_38 c1 ?_
  refine s_iload_n (x := l3) dX7_layDelays_66 rfl ?_
  refine s_iast (c := l0 + 1) (i := h l0 2) dX7_layDelays_67 (fin_X7_0 c1) r1.1 r1.2 ?_
  exact kk
theorem bX7_layDelays_68 {fr M1 M2 b1 b2 : Nat} {Q : RS → Nat → AH → Prop} {h : AH} {x0 x1 x2 x3 : AV}   (hq : Q (.inl none) 137 h) : Wp mX7_layDelays (kR fr M1 M2) Q (b1, b2) 68 [x0, x1, x2, x3] [] 137 h := by
  refine s_fgt (fgt_n _ (fgt_n _ (fgt_n _ (fgt_n _ fgt_0)))) ?_
  exact s_return dX7_layDelays_68 rfl hq (fun z => by cases z)
theorem dX8_clear_0 : decode mX8_clear.cd 0 = .ok (.aload_n 0, 1) := by decide +kernel
theorem dX8_clear_1 : decode mX8_clear.cd 1 = .ok (.invokevirtual 30, 3) := by decide +kernel
theorem dX8_clear_4 : decode mX8_clear.cd 4 = .ok (.aload_n 0, 1) := by decide +kernel
theorem dX8_clear_5 : decode mX8_clear.cd 5 = .ok (.invokevirtual 33, 3) := by decide +kernel
theorem dX8_clear_8 : decode mX8_clear.cd 8 = .ok (.aload_n 0, 1) := by decide +kernel
theorem dX8_clear_9 : decode mX8_clear.cd 9 = .ok (.getfield 18, 3) := by decide +kernel
theorem dX8_clear_12 : decode mX8_clear.cd 12 = .ok (.iconst (-1), 1) := by decide +kernel
theorem dX8_clear_13 : decode mX8_clear.cd 13 = .ok (.invokestatic 36, 3) := by decide +kernel
theorem dX8_clear_16 : decode mX8_clear.cd 16 = .ok (.aload_n 0, 1) := by decide +kernel
theorem dX8_clear_17 : decode mX8_clear.cd 17 = .ok (.iconst 0, 1) := by decide +kernel
theorem dX8_clear_18 : decode mX8_clear.cd 18 = .ok (.putfield 42, 3) := by decide +kernel
theorem dX8_clear_21 : decode mX8_clear.cd 21 = .ok (.aload_n 0, 1) := by decide +kernel
theorem dX8_clear_22 : decode mX8_clear.cd 22 = .ok (.getfield 21, 3) := by decide +kernel
theorem dX8_clear_25 : decode mX8_clear.cd 25 = .ok (.iconst 0, 1) := by decide +kernel
theorem dX8_clear_26 : decode mX8_clear.cd 26 = .ok (.invokestatic 36, 3) := by decide +kernel
theorem dX8_clear_29 : decode mX8_clear.cd 29 = .ok (.aload_n 0, 1) := by decide +kernel
theorem dX8_clear_30 : decode mX8_clear.cd 30 = .ok (.getfield 24, 3) := by decide +kernel
theorem dX8_clear_33 : decode mX8_clear.cd 33 = .ok (.iconst 0, 1) := by decide +kernel
theorem dX8_clear_34 : decode mX8_clear.cd 34 = .ok (.invokestatic 36, 3) := by decide +kernel
theorem dX8_clear_37 : decode mX8_clear.cd 37 = .ok (.return_, 1) := by decide +kernel
theorem bX8_clear_0 {fr M1 M2 b1 b2 : Nat} {Q : RS → Nat → AH → Prop} {h : AH} {l0 : Int} {R : AH → Prop} (c1 : cel 137 l0 (8, 8) := by first | assumption | omega)  (hS : Sp mX8_clearSaid true (fr - 1) 0 0 [zR l0] 137 h (rV R)) (hf : 1 ≤ fr := by omega) (kk : ∀ h' : AH, R h' → Wp mX8_clear (kR fr M1 M2) Q (b1, b2) 4 [zR l0] [] 137 h') : Wp mX8_clear (kR fr M1 M2) Q (b1, b2) 0 [zR l0] [] 137 h := by
  refine s_aload_n (x := l0) dX8_clear_0 rfl ?_
  exact s_callV (as := []) (st := []) (o := l0) dX8_clear_1 kX8_30 rfl ⟨8, 8, TX8, c1, rfl, by decide⟩ rfl rfl (Nat.le_of_ble_eq_true rfl) hS (show fr - 1 + 1 ≤ fr by omega) (Nat.zero_le _) (Nat.zero_le _) (fun v n' h' hP _ => by obtain ⟨e, rfl, hR⟩ := hP; cases e; exact kk h' hR) (fun E n' h' _ z => (rV_nt _ _ _ z).elim)
theorem bX8_clear_4 {fr M1 M2 b1 b2 : Nat} {Q : RS → Nat → AH → Prop} {h : AH} {l0 : Int} {R : AH → Prop} (c1 : cel 137 l0 (8, 8) := by first | assumption | omega)  (hS : Sp mX8_clearTold true (fr - 1) 0 0 [zR l0] 137 h (rV R)) (hf : 1 ≤ fr := by omega) (kk : ∀ h' : AH, R h' → Wp mX8_clear (kR fr M1 M2) Q (b1, b2) 8 [zR l0] [] 137 h') : Wp mX8_clear (kR fr M1 M2) Q (b1, b2) 4 [zR l0] [] 137 h := by
  refine s_aload_n (x := l0) dX8_clear_4 rfl ?_
  exact s_callV (as := []) (st := []) (o := l0) dX8_clear_5 kX8_33 rfl ⟨8, 8, TX8, c1, rfl, by decide⟩ rfl rfl (Nat.le_of_ble_eq_true rfl) hS (show fr - 1 + 1 ≤ fr by omega) (Nat.zero_le _) (Nat.zero_le _) (fun v n' h' hP _ => by obtain ⟨e, rfl, hR⟩ := hP; cases e; exact kk h' hR) (fun E n' h' _ z => (rV_nt _ _ _ z).elim)
theorem bX8_clear_8 {fr M1 M2 b1 b2 : Nat} {Q : RS → Nat → AH → Prop} {h : AH} {l0 : Int} {R : AH → Prop} (c1 : cel 137 l0 (8, 8) := by first | assumption | omega)  (hS : Sp mJ7_fill_53178 true (fr - 1) 0 0 [zR (l0 + 3), zI (-1)] 137 h (rV R)) (hf : 1 ≤ fr := by omega) (kk : ∀ h' : AH, R h' → Wp mX8_clear (kR fr M1 M2) Q (b1, b2) 16 [zR l0] [] 137 h') : Wp mX8_clear (kR fr M1 M2) Q (b1, b2) 8 [zR l0] [] 137 h := by
  refine s_aload_n (x := l0) dX8_clear_8 rfl ?_
  refine s_getFd (c := l0) (d := l0 + 3) dX8_clear_9 lX8_18 c1 (Or.inl rfl) rfl (ne0 (fin_X8_4 c1)) ?_
  refine s_iconst dX8_clear_12 ?_
  exact s_callS (as := [zR (l0 + 3), zI (-1)]) (st := []) dX8_clear_13 kX8_36 rfl rfl (Nat.le_of_ble_eq_true rfl) hS (show fr - 1 + 1 ≤ fr by omega) (Nat.zero_le _) (Nat.zero_le _) (fun v n' h' hP _ => by obtain ⟨e, rfl, hR⟩ := hP; cases e; exact kk h' hR) (fun E n' h' _ z => (rV_nt _ _ _ z).elim)
theorem bX8_clear_16 {fr M1 M2 b1 b2 : Nat} {Q : RS → Nat → AH → Prop} {h : AH} {l0 : Int} {R : AH → Prop} (c1 : cel 137 l0 (8, 8) := by first | assumption | omega)  (hS : Sp mJ7_fill_53178 true (fr - 1) 0 0 [zR (l0 + 4), zI 0] 137 (up h l0 5 0) (rV R)) (hf : 1 ≤ fr := by omega) (kk : ∀ h' : AH, R h' → Wp mX8_clear (kR fr M1 M2) Q (b1, b2) 29 [zR l0] [] 137 h') : Wp mX8_clear (kR fr M1 M2) Q (b1, b2) 16 [zR l0] [] 137 h := by
  refine s_aload_n (x := l0) dX8_clear_16 rfl ?_
  refine s_iconst dX8_clear_17 ?_
  refine s_put (c := l0) dX8_clear_18 lX8_42 c1 ?_
  refine s_aload_n (x := l0) dX8_clear_21 rfl ?_
  refine s_getFd (c := l0) (d := l0 + 4) dX8_clear_22 lX8_21 c1 (Or.inl rfl) rfl (ne0 (fin_X8_6 c1)) ?_
  refine s_iconst dX8_clear_25 ?_
  exact s_callS (as := [zR (l0 + 4), zI 0]) (st := []) dX8_clear_26 kX8_36 rfl rfl (Nat.le_of_ble_eq_true rfl) hS (show fr - 1 + 1 ≤ fr by omega) (Nat.zero_le _) (Nat.zero_le _) (fun v n' h' hP _ => by obtain ⟨e, rfl, hR⟩ := hP; cases e; exact kk h' hR) (fun E n' h' _ z => (rV_nt _ _ _ z).elim)
theorem bX8_clear_29 {fr M1 M2 b1 b2 : Nat} {Q : RS → Nat → AH → Prop} {h : AH} {l0 : Int} {R : AH → Prop} (c1 : cel 137 l0 (8, 8) := by first | assumption | omega)  (hS : Sp mJ7_fill_53178 true (fr - 1) 0 0 [zR (l0 + 5), zI 0] 137 h (rV R)) (hf : 1 ≤ fr := by omega) (kk : ∀ h' : AH, R h' → Wp mX8_clear (kR fr M1 M2) Q (b1, b2) 37 [zR l0] [] 137 h') : Wp mX8_clear (kR fr M1 M2) Q (b1, b2) 29 [zR l0] [] 137 h := by
  refine s_aload_n (x := l0) dX8_clear_29 rfl ?_
  refine s_getFd (c := l0) (d := l0 + 5) dX8_clear_30 lX8_24 c1 (Or.inl rfl) rfl (ne0 (fin_X8_7 c1)) ?_
  refine s_iconst dX8_clear_33 ?_
  exact s_callS (as := [zR (l0 + 5), zI 0]) (st := []) dX8_clear_34 kX8_36 rfl rfl (Nat.le_of_ble_eq_true rfl) hS (show fr - 1 + 1 ≤ fr by omega) (Nat.zero_le _) (Nat.zero_le _) (fun v n' h' hP _ => by obtain ⟨e, rfl, hR⟩ := hP; cases e; exact kk h' hR) (fun E n' h' _ z => (rV_nt _ _ _ z).elim)
theorem bX8_clear_37 {fr M1 M2 b1 b2 : Nat} {Q : RS → Nat → AH → Prop} {h : AH} {x0 : AV}   (hq : Q (.inl none) 137 h) : Wp mX8_clear (kR fr M1 M2) Q (b1, b2) 37 [x0] [] 137 h := by
  refine s_fgt (fgt_n _ fgt_0) ?_
  exact s_return dX8_clear_37 rfl hq (fun z => by cases z)
theorem dX8_clearSaid_0 : decode mX8_clearSaid.cd 0 = .ok (.aload_n 0, 1) := by decide +kernel
theorem dX8_clearSaid_1 : decode mX8_clearSaid.cd 1 = .ok (.getfield 9, 3) := by decide +kernel
theorem dX8_clearSaid_4 : decode mX8_clearSaid.cd 4 = .ok (.iconst 0, 1) := by decide +kernel
theorem dX8_clearSaid_5 : decode mX8_clearSaid.cd 5 = .ok (.invokestatic 36, 3) := by decide +kernel
theorem dX8_clearSaid_8 : decode mX8_clearSaid.cd 8 = .ok (.aload_n 0, 1) := by decide +kernel
theorem dX8_clearSaid_9 : decode mX8_clearSaid.cd 9 = .ok (.iconst 0, 1) := by decide +kernel
theorem dX8_clearSaid_10 : decode mX8_clearSaid.cd 10 = .ok (.putfield 46, 3) := by decide +kernel
theorem dX8_clearSaid_13 : decode mX8_clearSaid.cd 13 = .ok (.return_, 1) := by decide +kernel
theorem bX8_clearSaid_0 {fr M1 M2 b1 b2 : Nat} {Q : RS → Nat → AH → Prop} {h : AH} {l0 : Int} {R : AH → Prop} (c1 : cel 137 l0 (8, 8) := by first | assumption | omega)  (hS : Sp mJ7_fill_53178 true (fr - 1) 0 0 [zR (l0 + 1), zI 0] 137 h (rV R)) (hf : 1 ≤ fr := by omega) (kk : ∀ h' : AH, R h' → Wp mX8_clearSaid (kR fr M1 M2) Q (b1, b2) 8 [zR l0] [] 137 h') : Wp mX8_clearSaid (kR fr M1 M2) Q (b1, b2) 0 [zR l0] [] 137 h := by
  refine s_aload_n (x := l0) dX8_clearSaid_0 rfl ?_
  refine s_getFd (c := l0) (d := l0 + 1) dX8_clearSaid_1 lX8_9 c1 (Or.inl rfl) rfl (ne0 (fin_X8_0 c1)) ?_
  refine s_iconst dX8_clearSaid_4 ?_
  exact s_callS (as := [zR (l0 + 1), zI 0]) (st := []) dX8_clearSaid_5 kX8_36 rfl rfl (Nat.le_of_ble_eq_true rfl) hS (show fr - 1 + 1 ≤ fr by omega) (Nat.zero_le _) (Nat.zero_le _) (fun v n' h' hP _ => by obtain ⟨e, rfl, hR⟩ := hP; cases e; exact kk h' hR) (fun E n' h' _ z => (rV_nt _ _ _ z).elim)
theorem bX8_clearSaid_8 {fr M1 M2 b1 b2 : Nat} {Q : RS → Nat → AH → Prop} {h : AH} {l0 : Int} (c1 : cel 137 l0 (8, 8) := by first | assumption | omega)  (hq : Q (.inl none) 137 (up h l0 1 0)) : Wp mX8_clearSaid (kR fr M1 M2) Q (b1, b2) 8 [zR l0] [] 137 h := by
  refine s_aload_n (x := l0) dX8_clearSaid_8 rfl ?_
  refine s_iconst dX8_clearSaid_9 ?_
  refine s_put (c := l0) dX8_clearSaid_10 lX8_46 c1 ?_
  exact s_return dX8_clearSaid_13 rfl hq (fun z => by cases z)
theorem dX8_clearTold_0 : decode mX8_clearTold.cd 0 = .ok (.aload_n 0, 1) := by decide +kernel
theorem dX8_clearTold_1 : decode mX8_clearTold.cd 1 = .ok (.getfield 15, 3) := by decide +kernel
theorem dX8_clearTold_4 : decode mX8_clearTold.cd 4 = .ok (.iconst (-1), 1) := by decide +kernel
theorem dX8_clearTold_5 : decode mX8_clearTold.cd 5 = .ok (.invokestatic 36, 3) := by decide +kernel
theorem dX8_clearTold_8 : decode mX8_clearTold.cd 8 = .ok (.aload_n 0, 1) := by decide +kernel
theorem dX8_clearTold_9 : decode mX8_clearTold.cd 9 = .ok (.iconst 0, 1) := by decide +kernel
theorem dX8_clearTold_10 : decode mX8_clearTold.cd 10 = .ok (.putfield 49, 3) := by decide +kernel
theorem dX8_clearTold_13 : decode mX8_clearTold.cd 13 = .ok (.return_, 1) := by decide +kernel
theorem bX8_clearTold_0 {fr M1 M2 b1 b2 : Nat} {Q : RS → Nat → AH → Prop} {h : AH} {l0 : Int} {R : AH → Prop} (c1 : cel 137 l0 (8, 8) := by first | assumption | omega)  (hS : Sp mJ7_fill_53178 true (fr - 1) 0 0 [zR (l0 + 2), zI (-1)] 137 h (rV R)) (hf : 1 ≤ fr := by omega) (kk : ∀ h' : AH, R h' → Wp mX8_clearTold (kR fr M1 M2) Q (b1, b2) 8 [zR l0] [] 137 h') : Wp mX8_clearTold (kR fr M1 M2) Q (b1, b2) 0 [zR l0] [] 137 h := by
  refine s_aload_n (x := l0) dX8_clearTold_0 rfl ?_
  refine s_getFd (c := l0) (d := l0 + 2) dX8_clearTold_1 lX8_15 c1 (Or.inl rfl) rfl (ne0 (fin_X8_2 c1)) ?_
  refine s_iconst dX8_clearTold_4 ?_
  exact s_callS (as := [zR (l0 + 2), zI (-1)]) (st := []) dX8_clearTold_5 kX8_36 rfl rfl (Nat.le_of_ble_eq_true rfl) hS (show fr - 1 + 1 ≤ fr by omega) (Nat.zero_le _) (Nat.zero_le _) (fun v n' h' hP _ => by obtain ⟨e, rfl, hR⟩ := hP; cases e; exact kk h' hR) (fun E n' h' _ z => (rV_nt _ _ _ z).elim)
theorem bX8_clearTold_8 {fr M1 M2 b1 b2 : Nat} {Q : RS → Nat → AH → Prop} {h : AH} {l0 : Int} (c1 : cel 137 l0 (8, 8) := by first | assumption | omega)  (hq : Q (.inl none) 137 (up h l0 3 0)) : Wp mX8_clearTold (kR fr M1 M2) Q (b1, b2) 8 [zR l0] [] 137 h := by
  refine s_aload_n (x := l0) dX8_clearTold_8 rfl ?_
  refine s_iconst dX8_clearTold_9 ?_
  refine s_put (c := l0) dX8_clearTold_10 lX8_49 c1 ?_
  exact s_return dX8_clearTold_13 rfl hq (fun z => by cases z)
theorem dX8_addSaid_0 : decode mX8_addSaid.cd 0 = .ok (.aload_n 0, 1) := by decide +kernel
theorem dX8_addSaid_1 : decode mX8_addSaid.cd 1 = .ok (.getfield 46, 3) := by decide +kernel
theorem dX8_addSaid_4 : decode mX8_addSaid.cd 4 = .ok (.sipush 200, 3) := by decide +kernel
theorem dX8_addSaid_7 : decode mX8_addSaid.cd 7 = .ok (.if_icmp .ge 14, 3) := by decide +kernel
theorem dX8_addSaid_10 : decode mX8_addSaid.cd 10 = .ok (.iload_n 2, 1) := by decide +kernel
theorem dX8_addSaid_11 : decode mX8_addSaid.cd 11 = .ok (.ifCond .lt 10, 3) := by decide +kernel
theorem dX8_addSaid_14 : decode mX8_addSaid.cd 14 = .ok (.iload_n 2, 1) := by decide +kernel
theorem dX8_addSaid_15 : decode mX8_addSaid.cd 15 = .ok (.sipush 200, 3) := by decide +kernel
theorem dX8_addSaid_18 : decode mX8_addSaid.cd 18 = .ok (.if_icmp .lt 5, 3) := by decide +kernel
theorem dX8_addSaid_21 : decode mX8_addSaid.cd 21 = .ok (.iconst 0, 1) := by decide +kernel
theorem dX8_addSaid_22 : decode mX8_addSaid.cd 22 = .ok (.ireturn, 1) := by decide +kernel
theorem dX8_addSaid_23 : decode mX8_addSaid.cd 23 = .ok (.aload_n 0, 1) := by decide +kernel
theorem dX8_addSaid_24 : decode mX8_addSaid.cd 24 = .ok (.getfield 9, 3) := by decide +kernel
theorem dX8_addSaid_27 : decode mX8_addSaid.cd 27 = .ok (.iload_n 2, 1) := by decide +kernel
theorem dX8_addSaid_28 : decode mX8_addSaid.cd 28 = .ok (.iaload, 1) := by decide +kernel
theorem dX8_addSaid_29 : decode mX8_addSaid.cd 29 = .ok (.iload_n 1, 1) := by decide +kernel
theorem dX8_addSaid_30 : decode mX8_addSaid.cd 30 = .ok (.ishr, 1) := by decide +kernel
theorem dX8_addSaid_31 : decode mX8_addSaid.cd 31 = .ok (.iconst 1, 1) := by decide +kernel
theorem dX8_addSaid_32 : decode mX8_addSaid.cd 32 = .ok (.iand, 1) := by decide +kernel
theorem dX8_addSaid_33 : decode mX8_addSaid.cd 33 = .ok (.ifCond .eq 5, 3) := by decide +kernel
theorem dX8_addSaid_36 : decode mX8_addSaid.cd 36 = .ok (.iconst 0, 1) := by decide +kernel
theorem dX8_addSaid_37 : decode mX8_addSaid.cd 37 = .ok (.ireturn, 1) := by decide +kernel
theorem dX8_addSaid_38 : decode mX8_addSaid.cd 38 = .ok (.aload_n 0, 1) := by decide +kernel
theorem dX8_addSaid_39 : decode mX8_addSaid.cd 39 = .ok (.getfield 9, 3) := by decide +kernel
theorem dX8_addSaid_42 : decode mX8_addSaid.cd 42 = .ok (.iload_n 2, 1) := by decide +kernel
theorem dX8_addSaid_43 : decode mX8_addSaid.cd 43 = .ok (.dup2, 1) := by decide +kernel
theorem dX8_addSaid_44 : decode mX8_addSaid.cd 44 = .ok (.iaload, 1) := by decide +kernel
theorem dX8_addSaid_45 : decode mX8_addSaid.cd 45 = .ok (.iconst 1, 1) := by decide +kernel
theorem dX8_addSaid_46 : decode mX8_addSaid.cd 46 = .ok (.iload_n 1, 1) := by decide +kernel
theorem dX8_addSaid_47 : decode mX8_addSaid.cd 47 = .ok (.ishl, 1) := by decide +kernel
theorem dX8_addSaid_48 : decode mX8_addSaid.cd 48 = .ok (.ior, 1) := by decide +kernel
theorem dX8_addSaid_49 : decode mX8_addSaid.cd 49 = .ok (.iastore, 1) := by decide +kernel
theorem dX8_addSaid_50 : decode mX8_addSaid.cd 50 = .ok (.aload_n 0, 1) := by decide +kernel
theorem dX8_addSaid_51 : decode mX8_addSaid.cd 51 = .ok (.dup, 1) := by decide +kernel
theorem dX8_addSaid_52 : decode mX8_addSaid.cd 52 = .ok (.getfield 46, 3) := by decide +kernel
theorem dX8_addSaid_55 : decode mX8_addSaid.cd 55 = .ok (.iconst 1, 1) := by decide +kernel
theorem dX8_addSaid_56 : decode mX8_addSaid.cd 56 = .ok (.iadd, 1) := by decide +kernel
theorem dX8_addSaid_57 : decode mX8_addSaid.cd 57 = .ok (.putfield 46, 3) := by decide +kernel
theorem dX8_addSaid_60 : decode mX8_addSaid.cd 60 = .ok (.iconst 1, 1) := by decide +kernel
theorem dX8_addSaid_61 : decode mX8_addSaid.cd 61 = .ok (.ireturn, 1) := by decide +kernel
theorem bX8_addSaid_0 {fr M1 M2 b1 b2 : Nat} {Q : RS → Nat → AH → Prop} {h : AH} {l0 l1 l2 : Int} (c1 : cel 137 l0 (8, 8) := by first | assumption | omega) (r1 : -2147483648 ≤ h l0 1 ∧ h l0 1 < 2147483648 := by omega) (kt : 200 ≤ h l0 1 → Wp mX8_addSaid (kR fr M1 M2) Q (b1, b2) 21 [zR l0, zI l1, zI l2] [] 137 h) (kf : h l0 1 < 200 → Wp mX8_addSaid (kR fr M1 M2) Q (b1, b2) 10 [zR l0, zI l1, zI l2] [] 137 h) : Wp mX8_addSaid (kR fr M1 M2) Q (b1, b2) 0 [zR l0, zI l1, zI l2] [] 137 h := by
  refine s_aload_n (x := l0) dX8_addSaid_0 rfl ?_
  refine s_get (c := l0) dX8_addSaid_1 lX8_46 c1 (by decide) ?_
  refine s_sipush dX8_addSaid_4 (by decide) ?_
  exact s_icmp_ge (tgt := 21) dX8_addSaid_7 (by decide) r1 ⟨by decide, by decide⟩ kt kf
theorem bX8_addSaid_10 {fr M1 M2 b1 b2 : Nat} {Q : RS → Nat → AH → Prop} {h : AH} {l0 l1 l2 : Int}  (r1 : -2147483648 ≤ l2 ∧ l2 < 2147483648 := by omega) (kt : l2 < 0 → Wp mX8_addSaid (kR fr M1 M2) Q (b1, b2) 21 [zR l0, zI l1, zI l2] [] 137 h) (kf : 0 ≤ l2 → Wp mX8_addSaid (kR fr M1 M2) Q (b1, b2) 14 [zR l0, zI l1, zI l2] [] 137 h) : Wp mX8_addSaid (kR fr M1 M2) Q (b1, b2) 10 [zR l0, zI l1, zI l2] [] 137 h := by
  refine s_iload_n (x := l2) dX8_addSaid_10 rfl ?_
  exact s_if_lt (tgt := 21) dX8_addSaid_11 (by decide) r1 kt kf
theorem bX8_addSaid_14 {fr M1 M2 b1 b2 : Nat} {Q : RS → Nat → AH → Prop} {h : AH} {l0 l1 l2 : Int}  (r1 : -2147483648 ≤ l2 ∧ l2 < 2147483648 := by omega) (kt : l2 < 200 → Wp mX8_addSaid (kR fr M1 M2) Q (b1, b2) 23 [zR l0, zI l1, zI l2] [] 137 h) (kf : 200 ≤ l2 → Wp mX8_addSaid (kR fr M1 M2) Q (b1, b2) 21 [zR l0, zI l1, zI l2] [] 137 h) : Wp mX8_addSaid (kR fr M1 M2) Q (b1, b2) 14 [zR l0, zI l1, zI l2] [] 137 h := by
  refine s_iload_n (x := l2) dX8_addSaid_14 rfl ?_
  refine s_sipush dX8_addSaid_15 (by decide) ?_
  exact s_icmp_lt (tgt := 23) dX8_addSaid_18 (by decide) r1 ⟨by decide, by decide⟩ kt kf
theorem bX8_addSaid_21 {fr M1 M2 b1 b2 : Nat} {Q : RS → Nat → AH → Prop} {h : AH} {x0 x1 x2 : AV}   (hq : Q (.inl (some (zI 0))) 137 h) : Wp mX8_addSaid (kR fr M1 M2) Q (b1, b2) 21 [x0, x1, x2] [] 137 h := by
  refine s_fgt (fgt_n _ (fgt_n _ (fgt_n _ fgt_0))) ?_
  refine s_iconst dX8_addSaid_21 ?_
  exact s_ireturn dX8_addSaid_22 ⟨.boolean, rfl, by decide⟩ hq (fun z => by cases z)
theorem bX8_addSaid_23 {fr M1 M2 b1 b2 : Nat} {Q : RS → Nat → AH → Prop} {h : AH} {l0 l1 l2 : Int} (c1 : cel 137 l0 (8, 8) := by first | assumption | omega) (r1 : 0 ≤ l2 ∧ l2 < 200 := by omega) (r2 : 0 ≤ l1 ∧ l1 < 32 := by omega) (r3 : -2147483648 ≤ h (l0 + 1) l2 ∧ h (l0 + 1) l2 < 2147483648 := by omega) (r4 : -2147483648 ≤ bAnd ((h (l0 + 1) l2) / 2 ^ l1.toNat) 1 ∧ bAnd ((h (l0 + 1) l2) / 2 ^ l1.toNat) 1 < 2147483648 := by omega) (kt : bAnd ((h (l0 + 1) l2) / 2 ^ l1.toNat) 1 = 0 → Wp mX8_addSaid (kR fr M1 M2) Q (b1, b2) 38 [zR l0, zI l1, zI l2] [] 137 h) (kf : ¬ bAnd ((h (l0 + 1) l2) / 2 ^ l1.toNat) 1 = 0 → Wp mX8_addSaid (kR fr M1 M2) Q (b1, b2) 36 [zR l0, zI l1, zI l2] [] 137 h) : Wp mX8_addSaid (kR fr M1 M2) Q (b1, b2) 23 [zR l0, zI l1, zI l2] [] 137 h := by
  refine s_aload_n (x := l0) dX8_addSaid_23 rfl ?_
  refine s_getFd (c := l0) (d := l0 + 1) dX8_addSaid_24 lX8_9 c1 (Or.inl rfl) rfl (ne0 (fin_X8_0 c1)) ?_
  refine s_iload_n (x := l2) dX8_addSaid_27 rfl ?_
  refine s_iald (c := l0 + 1) (i := l2) dX8_addSaid_28 (fin_X8_0 c1) r1.1 r1.2 ?_
  refine s_iload_n (x := l1) dX8_addSaid_29 rfl ?_
  refine s_ishrN dX8_addSaid_30 r3 r2.1 r2.2 ?_
  refine s_iconst dX8_addSaid_31 ?_
  refine s_iand dX8_addSaid_32 ?_
  exact s_if_eq (tgt := 38) dX8_addSaid_33 (by decide) r4 kt kf
theorem bX8_addSaid_36 {fr M1 M2 b1 b2 : Nat} {Q : RS → Nat → AH → Prop} {h : AH} {x0 x1 x2 : AV}   (hq : Q (.inl (some (zI 0))) 137 h) : Wp mX8_addSaid (kR fr M1 M2) Q (b1, b2) 36 [x0, x1, x2] [] 137 h := by
  refine s_fgt (fgt_n _ (fgt_n _ (fgt_n _ fgt_0))) ?_
  refine s_iconst dX8_addSaid_36 ?_
  exact s_ireturn dX8_addSaid_37 ⟨.boolean, rfl, by decide⟩ hq (fun z => by cases z)
theorem bX8_addSaid_38 {fr M1 M2 b1 b2 : Nat} {Q : RS → Nat → AH → Prop} {h : AH} {l0 l1 l2 : Int} (c1 : cel 137 l0 (8, 8) := by first | assumption | omega) (r1 : 0 ≤ l2 ∧ l2 < 200 := by omega) (r2 : 0 ≤ l1 ∧ l1 < 32 := by omega) (hq : Q (.inl (some (zI 1))) 137 (up (up h (l0 + 1) l2 (bOr (h (l0 + 1) l2) (1 * 2 ^ l1.toNat))) l0 1 (((up h (l0 + 1) l2 (bOr (h (l0 + 1) l2) (1 * 2 ^ l1.toNat))) l0 1) + 1))) : Wp mX8_addSaid (kR fr M1 M2) Q (b1, b2) 38 [zR l0, zI l1, zI l2] [] 137 h := by
  refine s_aload_n (x := l0) dX8_addSaid_38 rfl ?_
  refine s_getFd (c := l0) (d := l0 + 1) dX8_addSaid_39 lX8_9 c1 (Or.inl rfl) rfl (ne0 (fin_X8_0 c1)) ?_
  refine s_iload_n (x := l2) dX8_addSaid_42 rfl ?_
  refine s_dup2 dX8_addSaid_43 rfl rfl ?_
  refine s_iald (c := l0 + 1) (i := l2) dX8_addSaid_44 (fin_X8_0 c1) r1.1 r1.2 ?_
  refine s_iconst dX8_addSaid_45 ?_
  refine s_iload_n (x := l1) dX8_addSaid_46 rfl ?_
  refine s_ishlN dX8_addSaid_47 r2.1 r2.2 ?_
  refine s_ior dX8_addSaid_48 ?_
  refine s_iast (c := l0 + 1) (i := l2) dX8_addSaid_49 (fin_X8_0 c1) r1.1 r1.2 ?_
  refine s_aload_n (x := l0) dX8_addSaid_50 rfl ?_
  refine s_dup dX8_addSaid_51 rfl ?_
  refine s_get (c := l0) dX8_addSaid_52 lX8_46 c1 (by decide) ?_
  refine s_iconst dX8_addSaid_55 ?_
  refine s_iadd dX8_addSaid_56 ?_
  refine s_put (c := l0) dX8_addSaid_57 lX8_46 c1 ?_
  refine s_iconst dX8_addSaid_60 ?_
  exact s_ireturn dX8_addSaid_61 ⟨.boolean, rfl, by decide⟩ hq (fun z => by cases z)
theorem dX8_copy_0 : decode mX8_copy.cd 0 = .ok (.aload_n 1, 1) := by decide +kernel
theorem dX8_copy_1 : decode mX8_copy.cd 1 = .ok (.getfield 9, 3) := by decide +kernel
theorem dX8_copy_4 : decode mX8_copy.cd 4 = .ok (.iconst 0, 1) := by decide +kernel
theorem dX8_copy_5 : decode mX8_copy.cd 5 = .ok (.aload_n 0, 1) := by decide +kernel
theorem dX8_copy_6 : decode mX8_copy.cd 6 = .ok (.getfield 9, 3) := by decide +kernel
theorem dX8_copy_9 : decode mX8_copy.cd 9 = .ok (.iconst 0, 1) := by decide +kernel
theorem dX8_copy_10 : decode mX8_copy.cd 10 = .ok (.sipush 200, 3) := by decide +kernel
theorem dX8_copy_13 : decode mX8_copy.cd 13 = .ok (.invokestatic 52, 3) := by decide +kernel
theorem dX8_copy_16 : decode mX8_copy.cd 16 = .ok (.aload_n 0, 1) := by decide +kernel
theorem dX8_copy_17 : decode mX8_copy.cd 17 = .ok (.aload_n 1, 1) := by decide +kernel
theorem dX8_copy_18 : decode mX8_copy.cd 18 = .ok (.getfield 46, 3) := by decide +kernel
theorem dX8_copy_21 : decode mX8_copy.cd 21 = .ok (.putfield 46, 3) := by decide +kernel
theorem dX8_copy_24 : decode mX8_copy.cd 24 = .ok (.aload_n 1, 1) := by decide +kernel
theorem dX8_copy_25 : decode mX8_copy.cd 25 = .ok (.getfield 15, 3) := by decide +kernel
theorem dX8_copy_28 : decode mX8_copy.cd 28 = .ok (.iconst 0, 1) := by decide +kernel
theorem dX8_copy_29 : decode mX8_copy.cd 29 = .ok (.aload_n 0, 1) := by decide +kernel
theorem dX8_copy_30 : decode mX8_copy.cd 30 = .ok (.getfield 15, 3) := by decide +kernel
theorem dX8_copy_33 : decode mX8_copy.cd 33 = .ok (.iconst 0, 1) := by decide +kernel
theorem dX8_copy_34 : decode mX8_copy.cd 34 = .ok (.bipush 60, 2) := by decide +kernel
theorem dX8_copy_36 : decode mX8_copy.cd 36 = .ok (.invokestatic 52, 3) := by decide +kernel
theorem dX8_copy_39 : decode mX8_copy.cd 39 = .ok (.aload_n 0, 1) := by decide +kernel
theorem dX8_copy_40 : decode mX8_copy.cd 40 = .ok (.aload_n 1, 1) := by decide +kernel
theorem dX8_copy_41 : decode mX8_copy.cd 41 = .ok (.getfield 49, 3) := by decide +kernel
theorem dX8_copy_44 : decode mX8_copy.cd 44 = .ok (.putfield 49, 3) := by decide +kernel
theorem dX8_copy_47 : decode mX8_copy.cd 47 = .ok (.aload_n 1, 1) := by decide +kernel
theorem dX8_copy_48 : decode mX8_copy.cd 48 = .ok (.getfield 18, 3) := by decide +kernel
theorem dX8_copy_51 : decode mX8_copy.cd 51 = .ok (.iconst 0, 1) := by decide +kernel
theorem dX8_copy_52 : decode mX8_copy.cd 52 = .ok (.aload_n 0, 1) := by decide +kernel
theorem dX8_copy_53 : decode mX8_copy.cd 53 = .ok (.getfield 18, 3) := by decide +kernel
theorem dX8_copy_56 : decode mX8_copy.cd 56 = .ok (.iconst 0, 1) := by decide +kernel
theorem dX8_copy_57 : decode mX8_copy.cd 57 = .ok (.bipush 16, 2) := by decide +kernel
theorem dX8_copy_59 : decode mX8_copy.cd 59 = .ok (.invokestatic 52, 3) := by decide +kernel
theorem dX8_copy_62 : decode mX8_copy.cd 62 = .ok (.aload_n 0, 1) := by decide +kernel
theorem dX8_copy_63 : decode mX8_copy.cd 63 = .ok (.aload_n 1, 1) := by decide +kernel
theorem dX8_copy_64 : decode mX8_copy.cd 64 = .ok (.getfield 42, 3) := by decide +kernel
theorem dX8_copy_67 : decode mX8_copy.cd 67 = .ok (.putfield 42, 3) := by decide +kernel
theorem dX8_copy_70 : decode mX8_copy.cd 70 = .ok (.aload_n 1, 1) := by decide +kernel
theorem dX8_copy_71 : decode mX8_copy.cd 71 = .ok (.getfield 21, 3) := by decide +kernel
theorem dX8_copy_74 : decode mX8_copy.cd 74 = .ok (.iconst 0, 1) := by decide +kernel
theorem dX8_copy_75 : decode mX8_copy.cd 75 = .ok (.aload_n 0, 1) := by decide +kernel
theorem dX8_copy_76 : decode mX8_copy.cd 76 = .ok (.getfield 21, 3) := by decide +kernel
theorem dX8_copy_79 : decode mX8_copy.cd 79 = .ok (.iconst 0, 1) := by decide +kernel
theorem dX8_copy_80 : decode mX8_copy.cd 80 = .ok (.iconst 3, 1) := by decide +kernel
theorem dX8_copy_81 : decode mX8_copy.cd 81 = .ok (.invokestatic 52, 3) := by decide +kernel
theorem dX8_copy_84 : decode mX8_copy.cd 84 = .ok (.aload_n 1, 1) := by decide +kernel
theorem dX8_copy_85 : decode mX8_copy.cd 85 = .ok (.getfield 24, 3) := by decide +kernel
theorem dX8_copy_88 : decode mX8_copy.cd 88 = .ok (.iconst 0, 1) := by decide +kernel
theorem dX8_copy_89 : decode mX8_copy.cd 89 = .ok (.aload_n 0, 1) := by decide +kernel
theorem dX8_copy_90 : decode mX8_copy.cd 90 = .ok (.getfield 24, 3) := by decide +kernel
theorem dX8_copy_93 : decode mX8_copy.cd 93 = .ok (.iconst 0, 1) := by decide +kernel
theorem dX8_copy_94 : decode mX8_copy.cd 94 = .ok (.iconst 3, 1) := by decide +kernel
theorem dX8_copy_95 : decode mX8_copy.cd 95 = .ok (.invokestatic 52, 3) := by decide +kernel
theorem dX8_copy_98 : decode mX8_copy.cd 98 = .ok (.return_, 1) := by decide +kernel
theorem bX8_copy_0 {fr M1 M2 b1 b2 : Nat} {Q : RS → Nat → AH → Prop} {h : AH} {l0 l1 : Int} (c1 : cel 137 l1 (8, 8) := by first | assumption | omega) (c2 : cel 137 l0 (8, 8) := by first | assumption | omega) (r1 : 1 ≤ fr := by omega) (hq : Q (.inl none) 137 (cpy (cpy (up (cpy (up (cpy (up (cpy h (l1 + 1) 0 (l0 + 1) 0 200) l0 1 ((cpy h (l1 + 1) 0 (l0 + 1) 0 200) l1 1)) (l1 + 2) 0 (l0 + 2) 0 60) l0 3 ((cpy (up (cpy h (l1 + 1) 0 (l0 + 1) 0 200) l0 1 ((cpy h (l1 + 1) 0 (l0 + 1) 0 200) l1 1)) (l1 + 2) 0 (l0 + 2) 0 60) l1 3)) (l1 + 3) 0 (l0 + 3) 0 16) l0 5 ((cpy (up (cpy (up (cpy h (l1 + 1) 0 (l0 + 1) 0 200) l0 1 ((cpy h (l1 + 1) 0 (l0 + 1) 0 200) l1 1)) (l1 + 2) 0 (l0 + 2) 0 60) l0 3 ((cpy (up (cpy h (l1 + 1) 0 (l0 + 1) 0 200) l0 1 ((cpy h (l1 + 1) 0 (l0 + 1) 0 200) l1 1)) (l1 + 2) 0 (l0 + 2) 0 60) l1 3)) (l1 + 3) 0 (l0 + 3) 0 16) l1 5)) (l1 + 4) 0 (l0 + 4) 0 3) (l1 + 5) 0 (l0 + 5) 0 3)) : Wp mX8_copy (kR fr M1 M2) Q (b1, b2) 0 [zR l0, zR l1] [] 137 h := by
  refine s_aload_n (x := l1) dX8_copy_0 rfl ?_
  refine s_getFd (c := l1) (d := l1 + 1) dX8_copy_1 lX8_9 c1 (Or.inl rfl) rfl (ne0 (fin_X8_0 c1)) ?_
  refine s_iconst dX8_copy_4 ?_
  refine s_aload_n (x := l0) dX8_copy_5 rfl ?_
  refine s_getFd (c := l0) (d := l0 + 1) dX8_copy_6 lX8_9 c2 (Or.inl rfl) rfl (ne0 (fin_X8_0 c2)) ?_
  refine s_iconst dX8_copy_9 ?_
  refine s_sipush dX8_copy_10 (by decide) ?_
  refine s_copy dX8_copy_13 wd622 wd624 wd623 wd25 r1 (Nat.le_of_ble_eq_true rfl) (fin_X8_0 c1) (fin_X8_0 c2) (by decide) (by decide) (by decide) (by decide) (by decide)  ?_
  refine s_aload_n (x := l0) dX8_copy_16 rfl ?_
  refine s_aload_n (x := l1) dX8_copy_17 rfl ?_
  refine s_get (c := l1) dX8_copy_18 lX8_46 c1 (by decide) ?_
  refine s_put (c := l0) dX8_copy_21 lX8_46 c2 ?_
  refine s_aload_n (x := l1) dX8_copy_24 rfl ?_
  refine s_getFd (c := l1) (d := l1 + 2) dX8_copy_25 lX8_15 c1 (Or.inl rfl) rfl (ne0 (fin_X8_2 c1)) ?_
  refine s_iconst dX8_copy_28 ?_
  refine s_aload_n (x := l0) dX8_copy_29 rfl ?_
  refine s_getFd (c := l0) (d := l0 + 2) dX8_copy_30 lX8_15 c2 (Or.inl rfl) rfl (ne0 (fin_X8_2 c2)) ?_
  refine s_iconst dX8_copy_33 ?_
  refine s_bipush dX8_copy_34 (by decide) ?_
  refine s_copy dX8_copy_36 wd622 wd624 wd623 wd25 r1 (Nat.le_of_ble_eq_true rfl) (fin_X8_2 c1) (fin_X8_2 c2) (by decide) (by decide) (by decide) (by decide) (by decide)  ?_
  refine s_aload_n (x := l0) dX8_copy_39 rfl ?_
  refine s_aload_n (x := l1) dX8_copy_40 rfl ?_
  refine s_get (c := l1) dX8_copy_41 lX8_49 c1 (by decide) ?_
  refine s_put (c := l0) dX8_copy_44 lX8_49 c2 ?_
  refine s_aload_n (x := l1) dX8_copy_47 rfl ?_
  refine s_getFd (c := l1) (d := l1 + 3) dX8_copy_48 lX8_18 c1 (Or.inl rfl) rfl (ne0 (fin_X8_4 c1)) ?_
  refine s_iconst dX8_copy_51 ?_
  refine s_aload_n (x := l0) dX8_copy_52 rfl ?_
  refine s_getFd (c := l0) (d := l0 + 3) dX8_copy_53 lX8_18 c2 (Or.inl rfl) rfl (ne0 (fin_X8_4 c2)) ?_
  refine s_iconst dX8_copy_56 ?_
  refine s_bipush dX8_copy_57 (by decide) ?_
  refine s_copy dX8_copy_59 wd622 wd624 wd623 wd25 r1 (Nat.le_of_ble_eq_true rfl) (fin_X8_4 c1) (fin_X8_4 c2) (by decide) (by decide) (by decide) (by decide) (by decide)  ?_
  refine s_aload_n (x := l0) dX8_copy_62 rfl ?_
  refine s_aload_n (x := l1) dX8_copy_63 rfl ?_
  refine s_get (c := l1) dX8_copy_64 lX8_42 c1 (by decide) ?_
  refine s_put (c := l0) dX8_copy_67 lX8_42 c2 ?_
  refine s_aload_n (x := l1) dX8_copy_70 rfl ?_
  refine s_getFd (c := l1) (d := l1 + 4) dX8_copy_71 lX8_21 c1 (Or.inl rfl) rfl (ne0 (fin_X8_6 c1)) ?_
  refine s_iconst dX8_copy_74 ?_
  refine s_aload_n (x := l0) dX8_copy_75 rfl ?_
  refine s_getFd (c := l0) (d := l0 + 4) dX8_copy_76 lX8_21 c2 (Or.inl rfl) rfl (ne0 (fin_X8_6 c2)) ?_
  refine s_iconst dX8_copy_79 ?_
  refine s_iconst dX8_copy_80 ?_
  refine s_copy dX8_copy_81 wd622 wd624 wd623 wd25 r1 (Nat.le_of_ble_eq_true rfl) (fin_X8_6 c1) (fin_X8_6 c2) (by decide) (by decide) (by decide) (by decide) (by decide)  ?_
  refine s_aload_n (x := l1) dX8_copy_84 rfl ?_
  refine s_getFd (c := l1) (d := l1 + 5) dX8_copy_85 lX8_24 c1 (Or.inl rfl) rfl (ne0 (fin_X8_7 c1)) ?_
  refine s_iconst dX8_copy_88 ?_
  refine s_aload_n (x := l0) dX8_copy_89 rfl ?_
  refine s_getFd (c := l0) (d := l0 + 5) dX8_copy_90 lX8_24 c2 (Or.inl rfl) rfl (ne0 (fin_X8_7 c2)) ?_
  refine s_iconst dX8_copy_93 ?_
  refine s_iconst dX8_copy_94 ?_
  refine s_copy dX8_copy_95 wd622 wd624 wd623 wd25 r1 (Nat.le_of_ble_eq_true rfl) (fin_X8_7 c1) (fin_X8_7 c2) (by decide) (by decide) (by decide) (by decide) (by decide)  ?_
  exact s_return dX8_copy_98 rfl hq (fun z => by cases z)
theorem dJ7_fill_53178_0 : decode mJ7_fill_53178.cd 0 = .ok (.iconst 0, 1) := by decide +kernel
theorem dJ7_fill_53178_1 : decode mJ7_fill_53178.cd 1 = .ok (.istore_n 2, 1) := by decide +kernel
theorem dJ7_fill_53178_2 : decode mJ7_fill_53178.cd 2 = .ok (.aload_n 0, 1) := by decide +kernel
theorem dJ7_fill_53178_3 : decode mJ7_fill_53178.cd 3 = .ok (.arraylength, 1) := by decide +kernel
theorem dJ7_fill_53178_4 : decode mJ7_fill_53178.cd 4 = .ok (.istore_n 3, 1) := by decide +kernel
theorem dJ7_fill_53178_5 : decode mJ7_fill_53178.cd 5 = .ok (.iload_n 2, 1) := by decide +kernel
theorem dJ7_fill_53178_6 : decode mJ7_fill_53178.cd 6 = .ok (.iload_n 3, 1) := by decide +kernel
theorem dJ7_fill_53178_7 : decode mJ7_fill_53178.cd 7 = .ok (.if_icmp .ge 13, 3) := by decide +kernel
theorem dJ7_fill_53178_10 : decode mJ7_fill_53178.cd 10 = .ok (.aload_n 0, 1) := by decide +kernel
theorem dJ7_fill_53178_11 : decode mJ7_fill_53178.cd 11 = .ok (.iload_n 2, 1) := by decide +kernel
theorem dJ7_fill_53178_12 : decode mJ7_fill_53178.cd 12 = .ok (.iload_n 1, 1) := by decide +kernel
theorem dJ7_fill_53178_13 : decode mJ7_fill_53178.cd 13 = .ok (.iastore, 1) := by decide +kernel
theorem dJ7_fill_53178_14 : decode mJ7_fill_53178.cd 14 = .ok (.iinc 2 1, 3) := by decide +kernel
theorem dJ7_fill_53178_17 : decode mJ7_fill_53178.cd 17 = .ok (.goto (-12), 3) := by decide +kernel
theorem dJ7_fill_53178_20 : decode mJ7_fill_53178.cd 20 = .ok (.return_, 1) := by decide +kernel
theorem bJ7_fill_53178_0 {fr M1 M2 b1 b2 : Nat} {Q : RS → Nat → AH → Prop} {h : AH} {l0 l1 : Int} {N1 : Nat} {x2 x3 : AV} (c1 : cel 137 l0 (100, N1) := by first | assumption | omega)  (kk : Wp mJ7_fill_53178 (kR fr M1 M2) Q (b1, b2) 5 [zR l0, zI l1, zI 0, zI (N1 : Int)] [] 137 h) : Wp mJ7_fill_53178 (kR fr M1 M2) Q (b1, b2) 0 [zR l0, zI l1, x2, x3] [] 137 h := by
  refine s_fgt (fgt_c (fgt_c (fgt_n _ (fgt_n _ fgt_0)))) ?_
  refine s_iconst dJ7_fill_53178_0 ?_
  refine s_istore_n dJ7_fill_53178_1 rfl (by decide) ?_
  refine s_aload_n (x := l0) dJ7_fill_53178_2 rfl ?_
  refine s_alen (c := l0) dJ7_fill_53178_3 c1 (by decide) ?_
  refine s_istore_n dJ7_fill_53178_4 rfl (by decide) ?_
  exact kk
theorem bJ7_fill_53178_5 {fr M1 M2 b1 b2 : Nat} {Q : RS → Nat → AH → Prop} {h : AH} {l0 l1 l2 l3 : Int}  (r1 : -2147483648 ≤ l2 ∧ l2 < 2147483648 := by omega) (r2 : -2147483648 ≤ l3 ∧ l3 < 2147483648 := by omega) (kt : l3 ≤ l2 → Wp mJ7_fill_53178 (kR fr M1 M2) Q (b1, b2) 20 [zR l0, zI l1, zI l2, zI l3] [] 137 h) (kf : l2 < l3 → Wp mJ7_fill_53178 (kR fr M1 M2) Q (b1, b2) 10 [zR l0, zI l1, zI l2, zI l3] [] 137 h) : Wp mJ7_fill_53178 (kR fr M1 M2) Q (b1, b2) 5 [zR l0, zI l1, zI l2, zI l3] [] 137 h := by
  refine s_iload_n (x := l2) dJ7_fill_53178_5 rfl ?_
  refine s_iload_n (x := l3) dJ7_fill_53178_6 rfl ?_
  exact s_icmp_ge (tgt := 20) dJ7_fill_53178_7 (by decide) r1 r2 kt kf
theorem bJ7_fill_53178_10 {fr M1 M2 b1 b2 : Nat} {Q : RS → Nat → AH → Prop} {h : AH} {l0 l1 l2 l3 : Int} {N1 : Nat} (c1 : cel 137 l0 (100, N1) := by first | assumption | omega) (r1 : 0 ≤ l2 ∧ l2 < N1 := by omega) (kk : Wp mJ7_fill_53178 (kR fr M1 M2) Q (b1, b2) 5 [zR l0, zI l1, zI (l2 + 1), zI l3] [] 137 (up h l0 l2 l1)) : Wp mJ7_fill_53178 (kR fr M1 M2) Q (b1, b2) 10 [zR l0, zI l1, zI l2, zI l3] [] 137 h := by
  refine s_aload_n (x := l0) dJ7_fill_53178_10 rfl ?_
  refine s_iload_n (x := l2) dJ7_fill_53178_11 rfl ?_
  refine s_iload_n (x := l1) dJ7_fill_53178_12 rfl ?_
  refine s_iast (c := l0) (i := l2) dJ7_fill_53178_13 c1 r1.1 r1.2 ?_
  refine s_iinc (x := l2) dJ7_fill_53178_14 rfl rfl (by decide) ?_
  exact s_goto (tgt := 5) dJ7_fill_53178_17 (by decide) kk
theorem bJ7_fill_53178_20 {fr M1 M2 b1 b2 : Nat} {Q : RS → Nat → AH → Prop} {h : AH} {x0 x1 x2 x3 : AV}   (hq : Q (.inl none) 137 h) : Wp mJ7_fill_53178 (kR fr M1 M2) Q (b1, b2) 20 [x0, x1, x2, x3] [] 137 h := by
  refine s_fgt (fgt_n _ (fgt_n _ (fgt_n _ (fgt_n _ fgt_0)))) ?_
  exact s_return dJ7_fill_53178_20 rfl hq (fun z => by cases z)
theorem dJ9_floorMod_7cf53_0 : decode mJ9_floorMod_7cf53.cd 0 = .ok (.iload_n 0, 1) := by decide +kernel
theorem dJ9_floorMod_7cf53_1 : decode mJ9_floorMod_7cf53.cd 1 = .ok (.iload_n 1, 1) := by decide +kernel
theorem dJ9_floorMod_7cf53_2 : decode mJ9_floorMod_7cf53.cd 2 = .ok (.irem, 1) := by decide +kernel
theorem dJ9_floorMod_7cf53_3 : decode mJ9_floorMod_7cf53.cd 3 = .ok (.istore_n 2, 1) := by decide +kernel
theorem dJ9_floorMod_7cf53_4 : decode mJ9_floorMod_7cf53.cd 4 = .ok (.iload_n 0, 1) := by decide +kernel
theorem dJ9_floorMod_7cf53_5 : decode mJ9_floorMod_7cf53.cd 5 = .ok (.iload_n 1, 1) := by decide +kernel
theorem dJ9_floorMod_7cf53_6 : decode mJ9_floorMod_7cf53.cd 6 = .ok (.ixor, 1) := by decide +kernel
theorem dJ9_floorMod_7cf53_7 : decode mJ9_floorMod_7cf53.cd 7 = .ok (.ifCond .ge 11, 3) := by decide +kernel
theorem dJ9_floorMod_7cf53_10 : decode mJ9_floorMod_7cf53.cd 10 = .ok (.iload_n 2, 1) := by decide +kernel
theorem dJ9_floorMod_7cf53_11 : decode mJ9_floorMod_7cf53.cd 11 = .ok (.ifCond .eq 7, 3) := by decide +kernel
theorem dJ9_floorMod_7cf53_14 : decode mJ9_floorMod_7cf53.cd 14 = .ok (.iload_n 2, 1) := by decide +kernel
theorem dJ9_floorMod_7cf53_15 : decode mJ9_floorMod_7cf53.cd 15 = .ok (.iload_n 1, 1) := by decide +kernel
theorem dJ9_floorMod_7cf53_16 : decode mJ9_floorMod_7cf53.cd 16 = .ok (.iadd, 1) := by decide +kernel
theorem dJ9_floorMod_7cf53_17 : decode mJ9_floorMod_7cf53.cd 17 = .ok (.ireturn, 1) := by decide +kernel
theorem dJ9_floorMod_7cf53_18 : decode mJ9_floorMod_7cf53.cd 18 = .ok (.iload_n 2, 1) := by decide +kernel
theorem dJ9_floorMod_7cf53_19 : decode mJ9_floorMod_7cf53.cd 19 = .ok (.ireturn, 1) := by decide +kernel
theorem bJ9_floorMod_7cf53_0 {fr M1 M2 b1 b2 : Nat} {Q : RS → Nat → AH → Prop} {h : AH} {l0 l1 : Int} {x2 : AV}  (r1 : 0 ≤ l0 ∧ l0 < 2147483648 := by omega) (r2 : 0 < l1 ∧ l1 < 2147483648 := by omega) (r3 : -2147483648 ≤ bXor l0 l1 ∧ bXor l0 l1 < 2147483648 := by omega) (kt : 0 ≤ bXor l0 l1 → Wp mJ9_floorMod_7cf53 (kR fr M1 M2) Q (b1, b2) 18 [zI l0, zI l1, zI (l0 % l1)] [] 137 h) (kf : bXor l0 l1 < 0 → Wp mJ9_floorMod_7cf53 (kR fr M1 M2) Q (b1, b2) 10 [zI l0, zI l1, zI (l0 % l1)] [] 137 h) : Wp mJ9_floorMod_7cf53 (kR fr M1 M2) Q (b1, b2) 0 [zI l0, zI l1, x2] [] 137 h := by
  refine s_fgt (fgt_c (fgt_c (fgt_n _ fgt_0))) ?_
  refine s_iload_n (x := l0) dJ9_floorMod_7cf53_0 rfl ?_
  refine s_iload_n (x := l1) dJ9_floorMod_7cf53_1 rfl ?_
  refine s_iremN dJ9_floorMod_7cf53_2 r1.1 r1.2 r2.1 r2.2 ?_
  refine s_istore_n dJ9_floorMod_7cf53_3 rfl (by decide) ?_
  refine s_iload_n (x := l0) dJ9_floorMod_7cf53_4 rfl ?_
  refine s_iload_n (x := l1) dJ9_floorMod_7cf53_5 rfl ?_
  refine s_ixor dJ9_floorMod_7cf53_6 ?_
  exact s_if_ge (tgt := 18) dJ9_floorMod_7cf53_7 (by decide) r3 kt kf
theorem bJ9_floorMod_7cf53_10 {fr M1 M2 b1 b2 : Nat} {Q : RS → Nat → AH → Prop} {h : AH} {l1 l2 : Int} {x0 : AV}  (r1 : -2147483648 ≤ l2 ∧ l2 < 2147483648 := by omega) (kt : l2 = 0 → Wp mJ9_floorMod_7cf53 (kR fr M1 M2) Q (b1, b2) 18 [none, zI l1, zI l2] [] 137 h) (kf : ¬ l2 = 0 → Wp mJ9_floorMod_7cf53 (kR fr M1 M2) Q (b1, b2) 14 [none, zI l1, zI l2] [] 137 h) : Wp mJ9_floorMod_7cf53 (kR fr M1 M2) Q (b1, b2) 10 [x0, zI l1, zI l2] [] 137 h := by
  refine s_fgt (fgt_n _ (fgt_c (fgt_c fgt_0))) ?_
  refine s_iload_n (x := l2) dJ9_floorMod_7cf53_10 rfl ?_
  exact s_if_eq (tgt := 18) dJ9_floorMod_7cf53_11 (by decide) r1 kt kf
theorem bJ9_floorMod_7cf53_14 {fr M1 M2 b1 b2 : Nat} {Q : RS → Nat → AH → Prop} {h : AH} {l1 l2 : Int} {x0 : AV}   (hq : Q (.inl (some (zI (l2 + l1)))) 137 h) : Wp mJ9_floorMod_7cf53 (kR fr M1 M2) Q (b1, b2) 14 [x0, zI l1, zI l2] [] 137 h := by
  refine s_fgt (fgt_n _ (fgt_c (fgt_c fgt_0))) ?_
  refine s_iload_n (x := l2) dJ9_floorMod_7cf53_14 rfl ?_
  refine s_iload_n (x := l1) dJ9_floorMod_7cf53_15 rfl ?_
  refine s_iadd dJ9_floorMod_7cf53_16 ?_
  exact s_ireturn dJ9_floorMod_7cf53_17 ⟨.int, rfl, rfl⟩ hq (fun z => by cases z)
theorem bJ9_floorMod_7cf53_18 {fr M1 M2 b1 b2 : Nat} {Q : RS → Nat → AH → Prop} {h : AH} {l2 : Int} {x0 x1 : AV}   (hq : Q (.inl (some (zI l2))) 137 h) : Wp mJ9_floorMod_7cf53 (kR fr M1 M2) Q (b1, b2) 18 [x0, x1, zI l2] [] 137 h := by
  refine s_fgt (fgt_n _ (fgt_n _ (fgt_c fgt_0))) ?_
  refine s_iload_n (x := l2) dJ9_floorMod_7cf53_18 rfl ?_
  exact s_ireturn dJ9_floorMod_7cf53_19 ⟨.int, rfl, rfl⟩ hq (fun z => by cases z)
theorem dJ6_bitCount_0f7a4_0 : decode mJ6_bitCount_0f7a4.cd 0 = .ok (.iload_n 0, 1) := by decide +kernel
theorem dJ6_bitCount_0f7a4_1 : decode mJ6_bitCount_0f7a4.cd 1 = .ok (.iload_n 0, 1) := by decide +kernel
theorem dJ6_bitCount_0f7a4_2 : decode mJ6_bitCount_0f7a4.cd 2 = .ok (.iconst 1, 1) := by decide +kernel
theorem dJ6_bitCount_0f7a4_3 : decode mJ6_bitCount_0f7a4.cd 3 = .ok (.iushr, 1) := by decide +kernel
theorem dJ6_bitCount_0f7a4_4 : decode mJ6_bitCount_0f7a4.cd 4 = .ok (.ldc_w 265, 3) := by decide +kernel
theorem dJ6_bitCount_0f7a4_7 : decode mJ6_bitCount_0f7a4.cd 7 = .ok (.iand, 1) := by decide +kernel
theorem dJ6_bitCount_0f7a4_8 : decode mJ6_bitCount_0f7a4.cd 8 = .ok (.isub, 1) := by decide +kernel
theorem dJ6_bitCount_0f7a4_9 : decode mJ6_bitCount_0f7a4.cd 9 = .ok (.istore_n 0, 1) := by decide +kernel
theorem dJ6_bitCount_0f7a4_10 : decode mJ6_bitCount_0f7a4.cd 10 = .ok (.iload_n 0, 1) := by decide +kernel
theorem dJ6_bitCount_0f7a4_11 : decode mJ6_bitCount_0f7a4.cd 11 = .ok (.ldc_w 266, 3) := by decide +kernel
theorem dJ6_bitCount_0f7a4_14 : decode mJ6_bitCount_0f7a4.cd 14 = .ok (.iand, 1) := by decide +kernel
theorem dJ6_bitCount_0f7a4_15 : decode mJ6_bitCount_0f7a4.cd 15 = .ok (.iload_n 0, 1) := by decide +kernel
theorem dJ6_bitCount_0f7a4_16 : decode mJ6_bitCount_0f7a4.cd 16 = .ok (.iconst 2, 1) := by decide +kernel
theorem dJ6_bitCount_0f7a4_17 : decode mJ6_bitCount_0f7a4.cd 17 = .ok (.iushr, 1) := by decide +kernel
theorem dJ6_bitCount_0f7a4_18 : decode mJ6_bitCount_0f7a4.cd 18 = .ok (.ldc_w 266, 3) := by decide +kernel
theorem dJ6_bitCount_0f7a4_21 : decode mJ6_bitCount_0f7a4.cd 21 = .ok (.iand, 1) := by decide +kernel
theorem dJ6_bitCount_0f7a4_22 : decode mJ6_bitCount_0f7a4.cd 22 = .ok (.iadd, 1) := by decide +kernel
theorem dJ6_bitCount_0f7a4_23 : decode mJ6_bitCount_0f7a4.cd 23 = .ok (.istore_n 0, 1) := by decide +kernel
theorem dJ6_bitCount_0f7a4_24 : decode mJ6_bitCount_0f7a4.cd 24 = .ok (.iload_n 0, 1) := by decide +kernel
theorem dJ6_bitCount_0f7a4_25 : decode mJ6_bitCount_0f7a4.cd 25 = .ok (.iload_n 0, 1) := by decide +kernel
theorem dJ6_bitCount_0f7a4_26 : decode mJ6_bitCount_0f7a4.cd 26 = .ok (.iconst 4, 1) := by decide +kernel
theorem dJ6_bitCount_0f7a4_27 : decode mJ6_bitCount_0f7a4.cd 27 = .ok (.iushr, 1) := by decide +kernel
theorem dJ6_bitCount_0f7a4_28 : decode mJ6_bitCount_0f7a4.cd 28 = .ok (.iadd, 1) := by decide +kernel
theorem dJ6_bitCount_0f7a4_29 : decode mJ6_bitCount_0f7a4.cd 29 = .ok (.ldc_w 267, 3) := by decide +kernel
theorem dJ6_bitCount_0f7a4_32 : decode mJ6_bitCount_0f7a4.cd 32 = .ok (.iand, 1) := by decide +kernel
theorem dJ6_bitCount_0f7a4_33 : decode mJ6_bitCount_0f7a4.cd 33 = .ok (.istore_n 0, 1) := by decide +kernel
theorem dJ6_bitCount_0f7a4_34 : decode mJ6_bitCount_0f7a4.cd 34 = .ok (.iload_n 0, 1) := by decide +kernel
theorem dJ6_bitCount_0f7a4_35 : decode mJ6_bitCount_0f7a4.cd 35 = .ok (.iload_n 0, 1) := by decide +kernel
theorem dJ6_bitCount_0f7a4_36 : decode mJ6_bitCount_0f7a4.cd 36 = .ok (.bipush 8, 2) := by decide +kernel
theorem dJ6_bitCount_0f7a4_38 : decode mJ6_bitCount_0f7a4.cd 38 = .ok (.iushr, 1) := by decide +kernel
theorem dJ6_bitCount_0f7a4_39 : decode mJ6_bitCount_0f7a4.cd 39 = .ok (.iadd, 1) := by decide +kernel
theorem dJ6_bitCount_0f7a4_40 : decode mJ6_bitCount_0f7a4.cd 40 = .ok (.istore_n 0, 1) := by decide +kernel
theorem dJ6_bitCount_0f7a4_41 : decode mJ6_bitCount_0f7a4.cd 41 = .ok (.iload_n 0, 1) := by decide +kernel
theorem dJ6_bitCount_0f7a4_42 : decode mJ6_bitCount_0f7a4.cd 42 = .ok (.iload_n 0, 1) := by decide +kernel
theorem dJ6_bitCount_0f7a4_43 : decode mJ6_bitCount_0f7a4.cd 43 = .ok (.bipush 16, 2) := by decide +kernel
theorem dJ6_bitCount_0f7a4_45 : decode mJ6_bitCount_0f7a4.cd 45 = .ok (.iushr, 1) := by decide +kernel
theorem dJ6_bitCount_0f7a4_46 : decode mJ6_bitCount_0f7a4.cd 46 = .ok (.iadd, 1) := by decide +kernel
theorem dJ6_bitCount_0f7a4_47 : decode mJ6_bitCount_0f7a4.cd 47 = .ok (.istore_n 0, 1) := by decide +kernel
theorem dJ6_bitCount_0f7a4_48 : decode mJ6_bitCount_0f7a4.cd 48 = .ok (.iload_n 0, 1) := by decide +kernel
theorem dJ6_bitCount_0f7a4_49 : decode mJ6_bitCount_0f7a4.cd 49 = .ok (.bipush 63, 2) := by decide +kernel
theorem dJ6_bitCount_0f7a4_51 : decode mJ6_bitCount_0f7a4.cd 51 = .ok (.iand, 1) := by decide +kernel
theorem dJ6_bitCount_0f7a4_52 : decode mJ6_bitCount_0f7a4.cd 52 = .ok (.ireturn, 1) := by decide +kernel
theorem bJ6_bitCount_0f7a4_0 {fr M1 M2 b1 b2 : Nat} {Q : RS → Nat → AH → Prop} {h : AH} {l0 : Int}   (hq : Q (.inl (some (zI (bAnd (((bAnd (((bAnd (l0 - (bAnd (bUshr l0 1) 1431655765)) 858993459) + (bAnd (bUshr (l0 - (bAnd (bUshr l0 1) 1431655765)) 2) 858993459)) + (bUshr ((bAnd (l0 - (bAnd (bUshr l0 1) 1431655765)) 858993459) + (bAnd (bUshr (l0 - (bAnd (bUshr l0 1) 1431655765)) 2) 858993459)) 4)) 252645135) + (bUshr (bAnd (((bAnd (l0 - (bAnd (bUshr l0 1) 1431655765)) 858993459) + (bAnd (bUshr (l0 - (bAnd (bUshr l0 1) 1431655765)) 2) 858993459)) + (bUshr ((bAnd (l0 - (bAnd (bUshr l0 1) 1431655765)) 858993459) + (bAnd (bUshr (l0 - (bAnd (bUshr l0 1) 1431655765)) 2) 858993459)) 4)) 252645135) 8)) + (bUshr ((bAnd (((bAnd (l0 - (bAnd (bUshr l0 1) 1431655765)) 858993459) + (bAnd (bUshr (l0 - (bAnd (bUshr l0 1) 1431655765)) 2) 858993459)) + (bUshr ((bAnd (l0 - (bAnd (bUshr l0 1) 1431655765)) 858993459) + (bAnd (bUshr (l0 - (bAnd (bUshr l0 1) 1431655765)) 2) 858993459)) 4)) 252645135) + (bUshr (bAnd (((bAnd (l0 - (bAnd (bUshr l0 1) 1431655765)) 858993459) + (bAnd (bUshr (l0 - (bAnd (bUshr l0 1) 1431655765)) 2) 858993459)) + (bUshr ((bAnd (l0 - (bAnd (bUshr l0 1) 1431655765)) 858993459) + (bAnd (bUshr (l0 - (bAnd (bUshr l0 1) 1431655765)) 2) 858993459)) 4)) 252645135) 8)) 16)) 63)))) 137 h) : Wp mJ6_bitCount_0f7a4 (kR fr M1 M2) Q (b1, b2) 0 [zI l0] [] 137 h := by
  refine s_iload_n (x := l0) dJ6_bitCount_0f7a4_0 rfl ?_
  refine s_iload_n (x := l0) dJ6_bitCount_0f7a4_1 rfl ?_
  refine s_iconst dJ6_bitCount_0f7a4_2 ?_
  refine s_iushr dJ6_bitCount_0f7a4_3 ?_
  refine s_ldc_w (v := 1431655765) dJ6_bitCount_0f7a4_4 wd965 ?_
  refine s_iand dJ6_bitCount_0f7a4_7 ?_
  refine s_isub dJ6_bitCount_0f7a4_8 ?_
  refine s_istore_n dJ6_bitCount_0f7a4_9 rfl (by decide) ?_
  refine s_iload_n (x := l0 - (bAnd (bUshr l0 1) 1431655765)) dJ6_bitCount_0f7a4_10 rfl ?_
  refine s_ldc_w (v := 858993459) dJ6_bitCount_0f7a4_11 wd966 ?_
  refine s_iand dJ6_bitCount_0f7a4_14 ?_
  refine s_iload_n (x := l0 - (bAnd (bUshr l0 1) 1431655765)) dJ6_bitCount_0f7a4_15 rfl ?_
  refine s_iconst dJ6_bitCount_0f7a4_16 ?_
  refine s_iushr dJ6_bitCount_0f7a4_17 ?_
  refine s_ldc_w (v := 858993459) dJ6_bitCount_0f7a4_18 wd966 ?_
  refine s_iand dJ6_bitCount_0f7a4_21 ?_
  refine s_iadd dJ6_bitCount_0f7a4_22 ?_
  refine s_istore_n dJ6_bitCount_0f7a4_23 rfl (by decide) ?_
  refine s_iload_n (x := (bAnd (l0 - (bAnd (bUshr l0 1) 1431655765)) 858993459) + (bAnd (bUshr (l0 - (bAnd (bUshr l0 1) 1431655765)) 2) 858993459)) dJ6_bitCount_0f7a4_24 rfl ?_
  refine s_iload_n (x := (bAnd (l0 - (bAnd (bUshr l0 1) 1431655765)) 858993459) + (bAnd (bUshr (l0 - (bAnd (bUshr l0 1) 1431655765)) 2) 858993459)) dJ6_bitCount_0f7a4_25 rfl ?_
  refine s_iconst dJ6_bitCount_0f7a4_26 ?_
  refine s_iushr dJ6_bitCount_0f7a4_27 ?_
  refine s_iadd dJ6_bitCount_0f7a4_28 ?_
  refine s_ldc_w (v := 252645135) dJ6_bitCount_0f7a4_29 wd967 ?_
  refine s_iand dJ6_bitCount_0f7a4_32 ?_
  refine s_istore_n dJ6_bitCount_0f7a4_33 rfl (by decide) ?_
  refine s_iload_n (x := bAnd (((bAnd (l0 - (bAnd (bUshr l0 1) 1431655765)) 858993459) + (bAnd (bUshr (l0 - (bAnd (bUshr l0 1) 1431655765)) 2) 858993459)) + (bUshr ((bAnd (l0 - (bAnd (bUshr l0 1) 1431655765)) 858993459) + (bAnd (bUshr (l0 - (bAnd (bUshr l0 1) 1431655765)) 2) 858993459)) 4)) 252645135) dJ6_bitCount_0f7a4_34 rfl ?_
  refine s_iload_n (x := bAnd (((bAnd (l0 - (bAnd (bUshr l0 1) 1431655765)) 858993459) + (bAnd (bUshr (l0 - (bAnd (bUshr l0 1) 1431655765)) 2) 858993459)) + (bUshr ((bAnd (l0 - (bAnd (bUshr l0 1) 1431655765)) 858993459) + (bAnd (bUshr (l0 - (bAnd (bUshr l0 1) 1431655765)) 2) 858993459)) 4)) 252645135) dJ6_bitCount_0f7a4_35 rfl ?_
  refine s_bipush dJ6_bitCount_0f7a4_36 (by decide) ?_
  refine s_iushr dJ6_bitCount_0f7a4_38 ?_
  refine s_iadd dJ6_bitCount_0f7a4_39 ?_
  refine s_istore_n dJ6_bitCount_0f7a4_40 rfl (by decide) ?_
  refine s_iload_n (x := (bAnd (((bAnd (l0 - (bAnd (bUshr l0 1) 1431655765)) 858993459) + (bAnd (bUshr (l0 - (bAnd (bUshr l0 1) 1431655765)) 2) 858993459)) + (bUshr ((bAnd (l0 - (bAnd (bUshr l0 1) 1431655765)) 858993459) + (bAnd (bUshr (l0 - (bAnd (bUshr l0 1) 1431655765)) 2) 858993459)) 4)) 252645135) + (bUshr (bAnd (((bAnd (l0 - (bAnd (bUshr l0 1) 1431655765)) 858993459) + (bAnd (bUshr (l0 - (bAnd (bUshr l0 1) 1431655765)) 2) 858993459)) + (bUshr ((bAnd (l0 - (bAnd (bUshr l0 1) 1431655765)) 858993459) + (bAnd (bUshr (l0 - (bAnd (bUshr l0 1) 1431655765)) 2) 858993459)) 4)) 252645135) 8)) dJ6_bitCount_0f7a4_41 rfl ?_
  refine s_iload_n (x := (bAnd (((bAnd (l0 - (bAnd (bUshr l0 1) 1431655765)) 858993459) + (bAnd (bUshr (l0 - (bAnd (bUshr l0 1) 1431655765)) 2) 858993459)) + (bUshr ((bAnd (l0 - (bAnd (bUshr l0 1) 1431655765)) 858993459) + (bAnd (bUshr (l0 - (bAnd (bUshr l0 1) 1431655765)) 2) 858993459)) 4)) 252645135) + (bUshr (bAnd (((bAnd (l0 - (bAnd (bUshr l0 1) 1431655765)) 858993459) + (bAnd (bUshr (l0 - (bAnd (bUshr l0 1) 1431655765)) 2) 858993459)) + (bUshr ((bAnd (l0 - (bAnd (bUshr l0 1) 1431655765)) 858993459) + (bAnd (bUshr (l0 - (bAnd (bUshr l0 1) 1431655765)) 2) 858993459)) 4)) 252645135) 8)) dJ6_bitCount_0f7a4_42 rfl ?_
  refine s_bipush dJ6_bitCount_0f7a4_43 (by decide) ?_
  refine s_iushr dJ6_bitCount_0f7a4_45 ?_
  refine s_iadd dJ6_bitCount_0f7a4_46 ?_
  refine s_istore_n dJ6_bitCount_0f7a4_47 rfl (by decide) ?_
  refine s_iload_n (x := ((bAnd (((bAnd (l0 - (bAnd (bUshr l0 1) 1431655765)) 858993459) + (bAnd (bUshr (l0 - (bAnd (bUshr l0 1) 1431655765)) 2) 858993459)) + (bUshr ((bAnd (l0 - (bAnd (bUshr l0 1) 1431655765)) 858993459) + (bAnd (bUshr (l0 - (bAnd (bUshr l0 1) 1431655765)) 2) 858993459)) 4)) 252645135) + (bUshr (bAnd (((bAnd (l0 - (bAnd (bUshr l0 1) 1431655765)) 858993459) + (bAnd (bUshr (l0 - (bAnd (bUshr l0 1) 1431655765)) 2) 858993459)) + (bUshr ((bAnd (l0 - (bAnd (bUshr l0 1) 1431655765)) 858993459) + (bAnd (bUshr (l0 - (bAnd (bUshr l0 1) 1431655765)) 2) 858993459)) 4)) 252645135) 8)) + (bUshr ((bAnd (((bAnd (l0 - (bAnd (bUshr l0 1) 1431655765)) 858993459) + (bAnd (bUshr (l0 - (bAnd (bUshr l0 1) 1431655765)) 2) 858993459)) + (bUshr ((bAnd (l0 - (bAnd (bUshr l0 1) 1431655765)) 858993459) + (bAnd (bUshr (l0 - (bAnd (bUshr l0 1) 1431655765)) 2) 858993459)) 4)) 252645135) + (bUshr (bAnd (((bAnd (l0 - (bAnd (bUshr l0 1) 1431655765)) 858993459) + (bAnd (bUshr (l0 - (bAnd (bUshr l0 1) 1431655765)) 2) 858993459)) + (bUshr ((bAnd (l0 - (bAnd (bUshr l0 1) 1431655765)) 858993459) + (bAnd (bUshr (l0 - (bAnd (bUshr l0 1) 1431655765)) 2) 858993459)) 4)) 252645135) 8)) 16)) dJ6_bitCount_0f7a4_48 rfl ?_
  refine s_bipush dJ6_bitCount_0f7a4_49 (by decide) ?_
  refine s_iand dJ6_bitCount_0f7a4_51 ?_
  exact s_ireturn dJ6_bitCount_0f7a4_52 ⟨.int, rfl, rfl⟩ hq (fun z => by cases z)
