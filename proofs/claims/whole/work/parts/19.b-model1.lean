theorem dX12_thrown_0 : decode mX12_thrown.cd 0 = .ok (.aload_n 0, 1) := by decide +kernel
theorem dX12_thrown_1 : decode mX12_thrown.cd 1 = .ok (.getfield 136, 3) := by decide +kernel
theorem dX12_thrown_4 : decode mX12_thrown.cd 4 = .ok (.ireturn, 1) := by decide +kernel
theorem bX12_thrown_0 {fr M1 M2 b1 b2 : Nat} {Q : RS → Nat → AH → Prop} {h : AH}   (hq : Q (.inl (some (zI (h 98 0)))) 137 h) : Wp mX12_thrown (kR fr M1 M2) Q (b1, b2) 0 [zR 98] [] 137 h := by
  refine s_aload_n (x := 98) dX12_thrown_0 rfl ?_
  refine s_get (c := 98) dX12_thrown_1 lX12_136 e98 (by decide) ?_
  exact s_ireturn dX12_thrown_4 ⟨.int, rfl, rfl⟩ hq (fun z => by cases z)
theorem dX12_right_0 : decode mX12_right.cd 0 = .ok (.aload_n 0, 1) := by decide +kernel
theorem dX12_right_1 : decode mX12_right.cd 1 = .ok (.getfield 136, 3) := by decide +kernel
theorem dX12_right_4 : decode mX12_right.cd 4 = .ok (.ifCond .ne 12, 3) := by decide +kernel
theorem dX12_right_7 : decode mX12_right.cd 7 = .ok (.iload_n 1, 1) := by decide +kernel
theorem dX12_right_8 : decode mX12_right.cd 8 = .ok (.ifCond .ne 8, 3) := by decide +kernel
theorem dX12_right_11 : decode mX12_right.cd 11 = .ok (.aload_n 0, 1) := by decide +kernel
theorem dX12_right_12 : decode mX12_right.cd 12 = .ok (.iload_n 2, 1) := by decide +kernel
theorem dX12_right_13 : decode mX12_right.cd 13 = .ok (.putfield 136, 3) := by decide +kernel
theorem dX12_right_16 : decode mX12_right.cd 16 = .ok (.aload_n 0, 1) := by decide +kernel
theorem dX12_right_17 : decode mX12_right.cd 17 = .ok (.getfield 136, 3) := by decide +kernel
theorem dX12_right_20 : decode mX12_right.cd 20 = .ok (.ifCond .ne 7, 3) := by decide +kernel
theorem dX12_right_23 : decode mX12_right.cd 23 = .ok (.iconst 1, 1) := by decide +kernel
theorem dX12_right_24 : decode mX12_right.cd 24 = .ok (.goto 4, 3) := by decide +kernel
theorem dX12_right_27 : decode mX12_right.cd 27 = .ok (.iconst 0, 1) := by decide +kernel
theorem dX12_right_28 : decode mX12_right.cd 28 = .ok (.ireturn, 1) := by decide +kernel
theorem bX12_right_0 {fr M1 M2 b1 b2 : Nat} {Q : RS → Nat → AH → Prop} {h : AH} {l1 l2 : Int}  (r1 : -2147483648 ≤ h 98 0 ∧ h 98 0 < 2147483648 := by omega) (kt : ¬ h 98 0 = 0 → Wp mX12_right (kR fr M1 M2) Q (b1, b2) 16 [zR 98, zI l1, zI l2] [] 137 h) (kf : h 98 0 = 0 → Wp mX12_right (kR fr M1 M2) Q (b1, b2) 7 [zR 98, zI l1, zI l2] [] 137 h) : Wp mX12_right (kR fr M1 M2) Q (b1, b2) 0 [zR 98, zI l1, zI l2] [] 137 h := by
  refine s_aload_n (x := 98) dX12_right_0 rfl ?_
  refine s_get (c := 98) dX12_right_1 lX12_136 e98 (by decide) ?_
  exact s_if_ne (tgt := 16) dX12_right_4 (by decide) r1 kt kf
theorem bX12_right_7 {fr M1 M2 b1 b2 : Nat} {Q : RS → Nat → AH → Prop} {h : AH} {l1 l2 : Int}  (r1 : -2147483648 ≤ l1 ∧ l1 < 2147483648 := by omega) (kt : ¬ l1 = 0 → Wp mX12_right (kR fr M1 M2) Q (b1, b2) 16 [zR 98, zI l1, zI l2] [] 137 h) (kf : l1 = 0 → Wp mX12_right (kR fr M1 M2) Q (b1, b2) 11 [zR 98, zI l1, zI l2] [] 137 h) : Wp mX12_right (kR fr M1 M2) Q (b1, b2) 7 [zR 98, zI l1, zI l2] [] 137 h := by
  refine s_iload_n (x := l1) dX12_right_7 rfl ?_
  exact s_if_ne (tgt := 16) dX12_right_8 (by decide) r1 kt kf
theorem bX12_right_11 {fr M1 M2 b1 b2 : Nat} {Q : RS → Nat → AH → Prop} {h : AH} {l2 : Int} {x1 : AV}   (kk : Wp mX12_right (kR fr M1 M2) Q (b1, b2) 16 [zR 98, none, zI l2] [] 137 (up h 98 0 l2)) : Wp mX12_right (kR fr M1 M2) Q (b1, b2) 11 [zR 98, x1, zI l2] [] 137 h := by
  refine s_fgt (fgt_c (fgt_n _ (fgt_c fgt_0))) ?_
  refine s_aload_n (x := 98) dX12_right_11 rfl ?_
  refine s_iload_n (x := l2) dX12_right_12 rfl ?_
  refine s_put (c := 98) dX12_right_13 lX12_136 e98 ?_
  exact kk
theorem bX12_right_16 {fr M1 M2 b1 b2 : Nat} {Q : RS → Nat → AH → Prop} {h : AH} {x1 x2 : AV}  (r1 : -2147483648 ≤ h 98 0 ∧ h 98 0 < 2147483648 := by omega) (kt : ¬ h 98 0 = 0 → Wp mX12_right (kR fr M1 M2) Q (b1, b2) 27 [zR 98, none, none] [] 137 h) (kf : h 98 0 = 0 → Wp mX12_right (kR fr M1 M2) Q (b1, b2) 23 [zR 98, none, none] [] 137 h) : Wp mX12_right (kR fr M1 M2) Q (b1, b2) 16 [zR 98, x1, x2] [] 137 h := by
  refine s_fgt (fgt_c (fgt_n _ (fgt_n _ fgt_0))) ?_
  refine s_aload_n (x := 98) dX12_right_16 rfl ?_
  refine s_get (c := 98) dX12_right_17 lX12_136 e98 (by decide) ?_
  exact s_if_ne (tgt := 27) dX12_right_20 (by decide) r1 kt kf
theorem bX12_right_23 {fr M1 M2 b1 b2 : Nat} {Q : RS → Nat → AH → Prop} {h : AH} {x0 x1 x2 : AV}   (kk : Wp mX12_right (kR fr M1 M2) Q (b1, b2) 28 [none, none, none] [zI 1] 137 h) : Wp mX12_right (kR fr M1 M2) Q (b1, b2) 23 [x0, x1, x2] [] 137 h := by
  refine s_fgt (fgt_n _ (fgt_n _ (fgt_n _ fgt_0))) ?_
  refine s_iconst dX12_right_23 ?_
  exact s_goto (tgt := 28) dX12_right_24 (by decide) kk
theorem bX12_right_27 {fr M1 M2 b1 b2 : Nat} {Q : RS → Nat → AH → Prop} {h : AH} {x0 x1 x2 : AV}   (kk : Wp mX12_right (kR fr M1 M2) Q (b1, b2) 28 [none, none, none] [zI 0] 137 h) : Wp mX12_right (kR fr M1 M2) Q (b1, b2) 27 [x0, x1, x2] [] 137 h := by
  refine s_fgt (fgt_n _ (fgt_n _ (fgt_n _ fgt_0))) ?_
  refine s_iconst dX12_right_27 ?_
  exact kk
theorem bX12_right_28 {fr M1 M2 b1 b2 : Nat} {Q : RS → Nat → AH → Prop} {h : AH} {s0 : Int} {x0 x1 x2 : AV}  (r1 : s0 = 0 ∨ s0 = 1 := by omega) (hq : Q (.inl (some (zI s0))) 137 h) : Wp mX12_right (kR fr M1 M2) Q (b1, b2) 28 [x0, x1, x2] [zI s0] 137 h := by
  refine s_fgt (fgt_n _ (fgt_n _ (fgt_n _ fgt_0))) ?_
  exact s_ireturn dX12_right_28 ⟨.boolean, rfl, bool_nar r1⟩ hq (fun z => by cases z)
theorem dX12_within_0 : decode mX12_within.cd 0 = .ok (.iload_n 0, 1) := by decide +kernel
theorem dX12_within_1 : decode mX12_within.cd 1 = .ok (.iload_n 1, 1) := by decide +kernel
theorem dX12_within_2 : decode mX12_within.cd 2 = .ok (.if_icmp .lt 12, 3) := by decide +kernel
theorem dX12_within_5 : decode mX12_within.cd 5 = .ok (.iload_n 0, 1) := by decide +kernel
theorem dX12_within_6 : decode mX12_within.cd 6 = .ok (.iload_n 2, 1) := by decide +kernel
theorem dX12_within_7 : decode mX12_within.cd 7 = .ok (.if_icmp .gt 7, 3) := by decide +kernel
theorem dX12_within_10 : decode mX12_within.cd 10 = .ok (.iconst 1, 1) := by decide +kernel
theorem dX12_within_11 : decode mX12_within.cd 11 = .ok (.goto 4, 3) := by decide +kernel
theorem dX12_within_14 : decode mX12_within.cd 14 = .ok (.iconst 0, 1) := by decide +kernel
theorem dX12_within_15 : decode mX12_within.cd 15 = .ok (.ireturn, 1) := by decide +kernel
theorem bX12_within_0 {fr M1 M2 b1 b2 : Nat} {Q : RS → Nat → AH → Prop} {h : AH} {l0 l1 l2 : Int}  (r1 : -2147483648 ≤ l0 ∧ l0 < 2147483648 := by omega) (r2 : -2147483648 ≤ l1 ∧ l1 < 2147483648 := by omega) (kt : l0 < l1 → Wp mX12_within (kR fr M1 M2) Q (b1, b2) 14 [zI l0, zI l1, zI l2] [] 137 h) (kf : l1 ≤ l0 → Wp mX12_within (kR fr M1 M2) Q (b1, b2) 5 [zI l0, zI l1, zI l2] [] 137 h) : Wp mX12_within (kR fr M1 M2) Q (b1, b2) 0 [zI l0, zI l1, zI l2] [] 137 h := by
  refine s_iload_n (x := l0) dX12_within_0 rfl ?_
  refine s_iload_n (x := l1) dX12_within_1 rfl ?_
  exact s_icmp_lt (tgt := 14) dX12_within_2 (by decide) r1 r2 kt kf
theorem bX12_within_5 {fr M1 M2 b1 b2 : Nat} {Q : RS → Nat → AH → Prop} {h : AH} {l0 l2 : Int} {x1 : AV}  (r1 : -2147483648 ≤ l0 ∧ l0 < 2147483648 := by omega) (r2 : -2147483648 ≤ l2 ∧ l2 < 2147483648 := by omega) (kt : l2 < l0 → Wp mX12_within (kR fr M1 M2) Q (b1, b2) 14 [zI l0, none, zI l2] [] 137 h) (kf : l0 ≤ l2 → Wp mX12_within (kR fr M1 M2) Q (b1, b2) 10 [zI l0, none, zI l2] [] 137 h) : Wp mX12_within (kR fr M1 M2) Q (b1, b2) 5 [zI l0, x1, zI l2] [] 137 h := by
  refine s_fgt (fgt_c (fgt_n _ (fgt_c fgt_0))) ?_
  refine s_iload_n (x := l0) dX12_within_5 rfl ?_
  refine s_iload_n (x := l2) dX12_within_6 rfl ?_
  exact s_icmp_gt (tgt := 14) dX12_within_7 (by decide) r1 r2 kt kf
theorem bX12_within_10 {fr M1 M2 b1 b2 : Nat} {Q : RS → Nat → AH → Prop} {h : AH} {x0 x1 x2 : AV}   (kk : Wp mX12_within (kR fr M1 M2) Q (b1, b2) 15 [none, none, none] [zI 1] 137 h) : Wp mX12_within (kR fr M1 M2) Q (b1, b2) 10 [x0, x1, x2] [] 137 h := by
  refine s_fgt (fgt_n _ (fgt_n _ (fgt_n _ fgt_0))) ?_
  refine s_iconst dX12_within_10 ?_
  exact s_goto (tgt := 15) dX12_within_11 (by decide) kk
theorem bX12_within_14 {fr M1 M2 b1 b2 : Nat} {Q : RS → Nat → AH → Prop} {h : AH} {x0 x1 x2 : AV}   (kk : Wp mX12_within (kR fr M1 M2) Q (b1, b2) 15 [none, none, none] [zI 0] 137 h) : Wp mX12_within (kR fr M1 M2) Q (b1, b2) 14 [x0, x1, x2] [] 137 h := by
  refine s_fgt (fgt_n _ (fgt_n _ (fgt_n _ fgt_0))) ?_
  refine s_iconst dX12_within_14 ?_
  exact kk
theorem bX12_within_15 {fr M1 M2 b1 b2 : Nat} {Q : RS → Nat → AH → Prop} {h : AH} {s0 : Int} {x0 x1 x2 : AV}  (r1 : s0 = 0 ∨ s0 = 1 := by omega) (hq : Q (.inl (some (zI s0))) 137 h) : Wp mX12_within (kR fr M1 M2) Q (b1, b2) 15 [x0, x1, x2] [zI s0] 137 h := by
  refine s_fgt (fgt_n _ (fgt_n _ (fgt_n _ fgt_0))) ?_
  exact s_ireturn dX12_within_15 ⟨.boolean, rfl, bool_nar r1⟩ hq (fun z => by cases z)
theorem dX12_copies_0 : decode mX12_copies.cd 0 = .ok (.iconst 0, 1) := by decide +kernel
theorem dX12_copies_1 : decode mX12_copies.cd 1 = .ok (.istore_n 3, 1) := by decide +kernel
theorem dX12_copies_2 : decode mX12_copies.cd 2 = .ok (.iload_n 3, 1) := by decide +kernel
theorem dX12_copies_3 : decode mX12_copies.cd 3 = .ok (.aload_n 1, 1) := by decide +kernel
theorem dX12_copies_4 : decode mX12_copies.cd 4 = .ok (.arraylength, 1) := by decide +kernel
theorem dX12_copies_5 : decode mX12_copies.cd 5 = .ok (.if_icmp .ge 15, 3) := by decide +kernel
theorem dX12_copies_8 : decode mX12_copies.cd 8 = .ok (.aload_n 2, 1) := by decide +kernel
theorem dX12_copies_9 : decode mX12_copies.cd 9 = .ok (.iload_n 3, 1) := by decide +kernel
theorem dX12_copies_10 : decode mX12_copies.cd 10 = .ok (.aload_n 1, 1) := by decide +kernel
theorem dX12_copies_11 : decode mX12_copies.cd 11 = .ok (.iload_n 3, 1) := by decide +kernel
theorem dX12_copies_12 : decode mX12_copies.cd 12 = .ok (.iaload, 1) := by decide +kernel
theorem dX12_copies_13 : decode mX12_copies.cd 13 = .ok (.iastore, 1) := by decide +kernel
theorem dX12_copies_14 : decode mX12_copies.cd 14 = .ok (.iinc 3 1, 3) := by decide +kernel
theorem dX12_copies_17 : decode mX12_copies.cd 17 = .ok (.goto (-15), 3) := by decide +kernel
theorem dX12_copies_20 : decode mX12_copies.cd 20 = .ok (.return_, 1) := by decide +kernel
theorem bX12_copies_0 {fr M1 M2 b1 b2 : Nat} {Q : RS → Nat → AH → Prop} {h : AH} {l1 l2 : Int} {x0 x3 : AV}   (kk : Wp mX12_copies (kR fr M1 M2) Q (b1, b2) 2 [none, zR l1, zR l2, zI 0] [] 137 h) : Wp mX12_copies (kR fr M1 M2) Q (b1, b2) 0 [x0, zR l1, zR l2, x3] [] 137 h := by
  refine s_fgt (fgt_n _ (fgt_c (fgt_c (fgt_n _ fgt_0)))) ?_
  refine s_iconst dX12_copies_0 ?_
  refine s_istore_n dX12_copies_1 rfl (by decide) ?_
  exact kk
theorem bX12_copies_2 {fr M1 M2 b1 b2 : Nat} {Q : RS → Nat → AH → Prop} {h : AH} {l1 l2 l3 : Int} {N1 : Nat} {x0 : AV} (c1 : cel 137 l1 (100, N1) := by first | assumption | omega) (r1 : -2147483648 ≤ l3 ∧ l3 < 2147483648 := by omega) (r2 : -2147483648 ≤ (N1 : Int) ∧ (N1 : Int) < 2147483648 := by omega) (kt : (N1 : Int) ≤ l3 → Wp mX12_copies (kR fr M1 M2) Q (b1, b2) 20 [none, zR l1, zR l2, zI l3] [] 137 h) (kf : l3 < (N1 : Int) → Wp mX12_copies (kR fr M1 M2) Q (b1, b2) 8 [none, zR l1, zR l2, zI l3] [] 137 h) : Wp mX12_copies (kR fr M1 M2) Q (b1, b2) 2 [x0, zR l1, zR l2, zI l3] [] 137 h := by
  refine s_fgt (fgt_n _ (fgt_c (fgt_c (fgt_c fgt_0)))) ?_
  refine s_iload_n (x := l3) dX12_copies_2 rfl ?_
  refine s_aload_n (x := l1) dX12_copies_3 rfl ?_
  refine s_alen (c := l1) dX12_copies_4 c1 (by decide) ?_
  exact s_icmp_ge (tgt := 20) dX12_copies_5 (by decide) r1 r2 kt kf
theorem bX12_copies_8 {fr M1 M2 b1 b2 : Nat} {Q : RS → Nat → AH → Prop} {h : AH} {l1 l2 l3 : Int} {N1 N2 : Nat} {x0 : AV} (c1 : cel 137 l1 (100, N1) := by first | assumption | omega) (c2 : cel 137 l2 (100, N2) := by first | assumption | omega) (r1 : 0 ≤ l3 ∧ l3 < N1 := by omega) (r2 : 0 ≤ l3 ∧ l3 < N2 := by omega) (kk : Wp mX12_copies (kR fr M1 M2) Q (b1, b2) 2 [none, zR l1, zR l2, zI (l3 + 1)] [] 137 (up h l2 l3 (h l1 l3))) : Wp mX12_copies (kR fr M1 M2) Q (b1, b2) 8 [x0, zR l1, zR l2, zI l3] [] 137 h := by
  refine s_fgt (fgt_n _ (fgt_c (fgt_c (fgt_c fgt_0)))) ?_
  refine s_aload_n (x := l2) dX12_copies_8 rfl ?_
  refine s_iload_n (x := l3) dX12_copies_9 rfl ?_
  refine s_aload_n (x := l1) dX12_copies_10 rfl ?_
  refine s_iload_n (x := l3) dX12_copies_11 rfl ?_
  refine s_iald (c := l1) (i := l3) dX12_copies_12 c1 r1.1 r1.2 ?_
  refine s_iast (c := l2) (i := l3) dX12_copies_13 c2 r2.1 r2.2 ?_
  refine s_iinc (x := l3) dX12_copies_14 rfl rfl (by decide) ?_
  exact s_goto (tgt := 2) dX12_copies_17 (by decide) kk
theorem bX12_copies_20 {fr M1 M2 b1 b2 : Nat} {Q : RS → Nat → AH → Prop} {h : AH} {x0 x1 x2 x3 : AV}   (hq : Q (.inl none) 137 h) : Wp mX12_copies (kR fr M1 M2) Q (b1, b2) 20 [x0, x1, x2, x3] [] 137 h := by
  refine s_fgt (fgt_n _ (fgt_n _ (fgt_n _ (fgt_n _ fgt_0)))) ?_
  exact s_return dX12_copies_20 rfl hq (fun z => by cases z)
theorem dX12_feed_0 : decode mX12_feed.cd 0 = .ok (.aload_n 0, 1) := by decide +kernel
theorem dX12_feed_1 : decode mX12_feed.cd 1 = .ok (.iconst 0, 1) := by decide +kernel
theorem dX12_feed_2 : decode mX12_feed.cd 2 = .ok (.putfield 136, 3) := by decide +kernel
theorem dX12_feed_5 : decode mX12_feed.cd 5 = .ok (.aload_n 0, 1) := by decide +kernel
theorem dX12_feed_6 : decode mX12_feed.cd 6 = .ok (.getfield 139, 3) := by decide +kernel
theorem dX12_feed_9 : decode mX12_feed.cd 9 = .ok (.bipush 20, 2) := by decide +kernel
theorem dX12_feed_11 : decode mX12_feed.cd 11 = .ok (.iadd, 1) := by decide +kernel
theorem dX12_feed_12 : decode mX12_feed.cd 12 = .ok (.sipush 700, 3) := by decide +kernel
theorem dX12_feed_15 : decode mX12_feed.cd 15 = .ok (.if_icmp .le 5, 3) := by decide +kernel
theorem dX12_feed_18 : decode mX12_feed.cd 18 = .ok (.iconst (-1), 1) := by decide +kernel
theorem dX12_feed_19 : decode mX12_feed.cd 19 = .ok (.ireturn, 1) := by decide +kernel
theorem dX12_feed_20 : decode mX12_feed.cd 20 = .ok (.aload_n 0, 1) := by decide +kernel
theorem dX12_feed_21 : decode mX12_feed.cd 21 = .ok (.iload_n 1, 1) := by decide +kernel
theorem dX12_feed_22 : decode mX12_feed.cd 22 = .ok (.invokevirtual 142, 3) := by decide +kernel
theorem dX12_feed_25 : decode mX12_feed.cd 25 = .ok (.aload_n 0, 1) := by decide +kernel
theorem dX12_feed_26 : decode mX12_feed.cd 26 = .ok (.iload_n 2, 1) := by decide +kernel
theorem dX12_feed_27 : decode mX12_feed.cd 27 = .ok (.invokevirtual 142, 3) := by decide +kernel
theorem dX12_feed_30 : decode mX12_feed.cd 30 = .ok (.aload_n 0, 1) := by decide +kernel
theorem dX12_feed_31 : decode mX12_feed.cd 31 = .ok (.iload_n 3, 1) := by decide +kernel
theorem dX12_feed_32 : decode mX12_feed.cd 32 = .ok (.invokevirtual 142, 3) := by decide +kernel
theorem dX12_feed_35 : decode mX12_feed.cd 35 = .ok (.aload_n 0, 1) := by decide +kernel
theorem dX12_feed_36 : decode mX12_feed.cd 36 = .ok (.iload 4, 2) := by decide +kernel
theorem dX12_feed_38 : decode mX12_feed.cd 38 = .ok (.invokevirtual 142, 3) := by decide +kernel
theorem dX12_feed_41 : decode mX12_feed.cd 41 = .ok (.aload_n 0, 1) := by decide +kernel
theorem dX12_feed_42 : decode mX12_feed.cd 42 = .ok (.iload 5, 2) := by decide +kernel
theorem dX12_feed_44 : decode mX12_feed.cd 44 = .ok (.invokevirtual 142, 3) := by decide +kernel
theorem dX12_feed_47 : decode mX12_feed.cd 47 = .ok (.aload_n 0, 1) := by decide +kernel
theorem dX12_feed_48 : decode mX12_feed.cd 48 = .ok (.getfield 139, 3) := by decide +kernel
theorem dX12_feed_51 : decode mX12_feed.cd 51 = .ok (.ireturn, 1) := by decide +kernel
theorem bX12_feed_0 {fr M1 M2 b1 b2 : Nat} {Q : RS → Nat → AH → Prop} {h : AH} {l1 l2 l3 l4 l5 : Int}  (r1 : -2147483648 ≤ (h 98 16) + 20 ∧ (h 98 16) + 20 < 2147483648 := by omega) (kt : (h 98 16) + 20 ≤ 700 → Wp mX12_feed (kR fr M1 M2) Q (b1, b2) 20 [zR 98, zI l1, zI l2, zI l3, zI l4, zI l5] [] 137 (up h 98 0 0)) (kf : 700 < (h 98 16) + 20 → Wp mX12_feed (kR fr M1 M2) Q (b1, b2) 18 [zR 98, zI l1, zI l2, zI l3, zI l4, zI l5] [] 137 (up h 98 0 0)) : Wp mX12_feed (kR fr M1 M2) Q (b1, b2) 0 [zR 98, zI l1, zI l2, zI l3, zI l4, zI l5] [] 137 h := by
  refine s_aload_n (x := 98) dX12_feed_0 rfl ?_
  refine s_iconst dX12_feed_1 ?_
  refine s_put (c := 98) dX12_feed_2 lX12_136 e98 ?_
  refine s_aload_n (x := 98) dX12_feed_5 rfl ?_
  refine s_get (c := 98) dX12_feed_6 lX12_139 e98 (by decide) ?_
  refine s_bipush dX12_feed_9 (by decide) ?_
  refine s_iadd dX12_feed_11 ?_
  refine s_sipush dX12_feed_12 (by decide) ?_
  exact s_icmp_le (tgt := 20) dX12_feed_15 (by decide) r1 ⟨by decide, by decide⟩ kt kf
theorem bX12_feed_18 {fr M1 M2 b1 b2 : Nat} {Q : RS → Nat → AH → Prop} {h : AH} {x0 x1 x2 x3 x4 x5 : AV}   (hq : Q (.inl (some (zI (-1)))) 137 h) : Wp mX12_feed (kR fr M1 M2) Q (b1, b2) 18 [x0, x1, x2, x3, x4, x5] [] 137 h := by
  refine s_fgt (fgt_n _ (fgt_n _ (fgt_n _ (fgt_n _ (fgt_n _ (fgt_n _ fgt_0)))))) ?_
  refine s_iconst dX12_feed_18 ?_
  exact s_ireturn dX12_feed_19 ⟨.int, rfl, rfl⟩ hq (fun z => by cases z)
theorem bX12_feed_20 {fr M1 M2 b1 b2 : Nat} {Q : RS → Nat → AH → Prop} {h : AH} {l1 l2 l3 l4 l5 : Int} {R : AH → Prop}   (hS : Sp mX12_lays true (fr - 1) 0 0 [zR 98, zI l1] 137 h (rV R)) (hf : 1 ≤ fr := by omega) (kk : ∀ h' : AH, R h' → Wp mX12_feed (kR fr M1 M2) Q (b1, b2) 25 [zR 98, zI l1, zI l2, zI l3, zI l4, zI l5] [] 137 h') : Wp mX12_feed (kR fr M1 M2) Q (b1, b2) 20 [zR 98, zI l1, zI l2, zI l3, zI l4, zI l5] [] 137 h := by
  refine s_aload_n (x := 98) dX12_feed_20 rfl ?_
  refine s_iload_n (x := l1) dX12_feed_21 rfl ?_
  exact s_callV (as := [zI l1]) (st := []) (o := 98) dX12_feed_22 kX12_142 rfl ⟨12, 87, TX12, e98, rfl, by decide⟩ rfl rfl (Nat.le_of_ble_eq_true rfl) hS (show fr - 1 + 1 ≤ fr by omega) (Nat.zero_le _) (Nat.zero_le _) (fun v n' h' hP _ => by obtain ⟨e, rfl, hR⟩ := hP; cases e; exact kk h' hR) (fun E n' h' _ z => (rV_nt _ _ _ z).elim)
theorem bX12_feed_25 {fr M1 M2 b1 b2 : Nat} {Q : RS → Nat → AH → Prop} {h : AH} {l2 l3 l4 l5 : Int} {x1 : AV} {R : AH → Prop}   (hS : Sp mX12_lays true (fr - 1) 0 0 [zR 98, zI l2] 137 h (rV R)) (hf : 1 ≤ fr := by omega) (kk : ∀ h' : AH, R h' → Wp mX12_feed (kR fr M1 M2) Q (b1, b2) 30 [zR 98, none, zI l2, zI l3, zI l4, zI l5] [] 137 h') : Wp mX12_feed (kR fr M1 M2) Q (b1, b2) 25 [zR 98, x1, zI l2, zI l3, zI l4, zI l5] [] 137 h := by
  refine s_fgt (fgt_c (fgt_n _ (fgt_c (fgt_c (fgt_c (fgt_c fgt_0)))))) ?_
  refine s_aload_n (x := 98) dX12_feed_25 rfl ?_
  refine s_iload_n (x := l2) dX12_feed_26 rfl ?_
  exact s_callV (as := [zI l2]) (st := []) (o := 98) dX12_feed_27 kX12_142 rfl ⟨12, 87, TX12, e98, rfl, by decide⟩ rfl rfl (Nat.le_of_ble_eq_true rfl) hS (show fr - 1 + 1 ≤ fr by omega) (Nat.zero_le _) (Nat.zero_le _) (fun v n' h' hP _ => by obtain ⟨e, rfl, hR⟩ := hP; cases e; exact kk h' hR) (fun E n' h' _ z => (rV_nt _ _ _ z).elim)
theorem bX12_feed_30 {fr M1 M2 b1 b2 : Nat} {Q : RS → Nat → AH → Prop} {h : AH} {l3 l4 l5 : Int} {x1 x2 : AV} {R : AH → Prop}   (hS : Sp mX12_lays true (fr - 1) 0 0 [zR 98, zI l3] 137 h (rV R)) (hf : 1 ≤ fr := by omega) (kk : ∀ h' : AH, R h' → Wp mX12_feed (kR fr M1 M2) Q (b1, b2) 35 [zR 98, none, none, zI l3, zI l4, zI l5] [] 137 h') : Wp mX12_feed (kR fr M1 M2) Q (b1, b2) 30 [zR 98, x1, x2, zI l3, zI l4, zI l5] [] 137 h := by
  refine s_fgt (fgt_c (fgt_n _ (fgt_n _ (fgt_c (fgt_c (fgt_c fgt_0)))))) ?_
  refine s_aload_n (x := 98) dX12_feed_30 rfl ?_
  refine s_iload_n (x := l3) dX12_feed_31 rfl ?_
  exact s_callV (as := [zI l3]) (st := []) (o := 98) dX12_feed_32 kX12_142 rfl ⟨12, 87, TX12, e98, rfl, by decide⟩ rfl rfl (Nat.le_of_ble_eq_true rfl) hS (show fr - 1 + 1 ≤ fr by omega) (Nat.zero_le _) (Nat.zero_le _) (fun v n' h' hP _ => by obtain ⟨e, rfl, hR⟩ := hP; cases e; exact kk h' hR) (fun E n' h' _ z => (rV_nt _ _ _ z).elim)
theorem bX12_feed_35 {fr M1 M2 b1 b2 : Nat} {Q : RS → Nat → AH → Prop} {h : AH} {l4 l5 : Int} {x1 x2 x3 : AV} {R : AH → Prop}   (hS : Sp mX12_lays true (fr - 1) 0 0 [zR 98, zI l4] 137 h (rV R)) (hf : 1 ≤ fr := by omega) (kk : ∀ h' : AH, R h' → Wp mX12_feed (kR fr M1 M2) Q (b1, b2) 41 [zR 98, none, none, none, zI l4, zI l5] [] 137 h') : Wp mX12_feed (kR fr M1 M2) Q (b1, b2) 35 [zR 98, x1, x2, x3, zI l4, zI l5] [] 137 h := by
  refine s_fgt (fgt_c (fgt_n _ (fgt_n _ (fgt_n _ (fgt_c (fgt_c fgt_0)))))) ?_
  refine s_aload_n (x := 98) dX12_feed_35 rfl ?_
  refine s_iload (x := l4) dX12_feed_36 rfl ?_
  exact s_callV (as := [zI l4]) (st := []) (o := 98) dX12_feed_38 kX12_142 rfl ⟨12, 87, TX12, e98, rfl, by decide⟩ rfl rfl (Nat.le_of_ble_eq_true rfl) hS (show fr - 1 + 1 ≤ fr by omega) (Nat.zero_le _) (Nat.zero_le _) (fun v n' h' hP _ => by obtain ⟨e, rfl, hR⟩ := hP; cases e; exact kk h' hR) (fun E n' h' _ z => (rV_nt _ _ _ z).elim)
theorem bX12_feed_41 {fr M1 M2 b1 b2 : Nat} {Q : RS → Nat → AH → Prop} {h : AH} {l5 : Int} {x1 x2 x3 x4 : AV} {R : AH → Prop}   (hS : Sp mX12_lays true (fr - 1) 0 0 [zR 98, zI l5] 137 h (rV R)) (hf : 1 ≤ fr := by omega) (kk : ∀ h' : AH, R h' → Wp mX12_feed (kR fr M1 M2) Q (b1, b2) 47 [zR 98, none, none, none, none, zI l5] [] 137 h') : Wp mX12_feed (kR fr M1 M2) Q (b1, b2) 41 [zR 98, x1, x2, x3, x4, zI l5] [] 137 h := by
  refine s_fgt (fgt_c (fgt_n _ (fgt_n _ (fgt_n _ (fgt_n _ (fgt_c fgt_0)))))) ?_
  refine s_aload_n (x := 98) dX12_feed_41 rfl ?_
  refine s_iload (x := l5) dX12_feed_42 rfl ?_
  exact s_callV (as := [zI l5]) (st := []) (o := 98) dX12_feed_44 kX12_142 rfl ⟨12, 87, TX12, e98, rfl, by decide⟩ rfl rfl (Nat.le_of_ble_eq_true rfl) hS (show fr - 1 + 1 ≤ fr by omega) (Nat.zero_le _) (Nat.zero_le _) (fun v n' h' hP _ => by obtain ⟨e, rfl, hR⟩ := hP; cases e; exact kk h' hR) (fun E n' h' _ z => (rV_nt _ _ _ z).elim)
theorem bX12_feed_47 {fr M1 M2 b1 b2 : Nat} {Q : RS → Nat → AH → Prop} {h : AH} {x1 x2 x3 x4 x5 : AV}   (hq : Q (.inl (some (zI (h 98 16)))) 137 h) : Wp mX12_feed (kR fr M1 M2) Q (b1, b2) 47 [zR 98, x1, x2, x3, x4, x5] [] 137 h := by
  refine s_fgt (fgt_c (fgt_n _ (fgt_n _ (fgt_n _ (fgt_n _ (fgt_n _ fgt_0)))))) ?_
  refine s_aload_n (x := 98) dX12_feed_47 rfl ?_
  refine s_get (c := 98) dX12_feed_48 lX12_139 e98 (by decide) ?_
  exact s_ireturn dX12_feed_51 ⟨.int, rfl, rfl⟩ hq (fun z => by cases z)
theorem dX12_lays_0 : decode mX12_lays.cd 0 = .ok (.bipush 24, 2) := by decide +kernel
theorem dX12_lays_2 : decode mX12_lays.cd 2 = .ok (.istore_n 2, 1) := by decide +kernel
theorem dX12_lays_3 : decode mX12_lays.cd 3 = .ok (.iload_n 2, 1) := by decide +kernel
theorem dX12_lays_4 : decode mX12_lays.cd 4 = .ok (.ifCond .lt 35, 3) := by decide +kernel
theorem dX12_lays_7 : decode mX12_lays.cd 7 = .ok (.aload_n 0, 1) := by decide +kernel
theorem dX12_lays_8 : decode mX12_lays.cd 8 = .ok (.getfield 35, 3) := by decide +kernel
theorem dX12_lays_11 : decode mX12_lays.cd 11 = .ok (.aload_n 0, 1) := by decide +kernel
theorem dX12_lays_12 : decode mX12_lays.cd 12 = .ok (.getfield 139, 3) := by decide +kernel
theorem dX12_lays_15 : decode mX12_lays.cd 15 = .ok (.iload_n 1, 1) := by decide +kernel
theorem dX12_lays_16 : decode mX12_lays.cd 16 = .ok (.iload_n 2, 1) := by decide +kernel
theorem dX12_lays_17 : decode mX12_lays.cd 17 = .ok (.ishr, 1) := by decide +kernel
theorem dX12_lays_18 : decode mX12_lays.cd 18 = .ok (.sipush 255, 3) := by decide +kernel
theorem dX12_lays_21 : decode mX12_lays.cd 21 = .ok (.iand, 1) := by decide +kernel
theorem dX12_lays_22 : decode mX12_lays.cd 22 = .ok (.iastore, 1) := by decide +kernel
theorem dX12_lays_23 : decode mX12_lays.cd 23 = .ok (.aload_n 0, 1) := by decide +kernel
theorem dX12_lays_24 : decode mX12_lays.cd 24 = .ok (.dup, 1) := by decide +kernel
theorem dX12_lays_25 : decode mX12_lays.cd 25 = .ok (.getfield 139, 3) := by decide +kernel
theorem dX12_lays_28 : decode mX12_lays.cd 28 = .ok (.iconst 1, 1) := by decide +kernel
theorem dX12_lays_29 : decode mX12_lays.cd 29 = .ok (.iadd, 1) := by decide +kernel
theorem dX12_lays_30 : decode mX12_lays.cd 30 = .ok (.putfield 139, 3) := by decide +kernel
theorem dX12_lays_33 : decode mX12_lays.cd 33 = .ok (.iinc 2 (-8), 3) := by decide +kernel
theorem dX12_lays_36 : decode mX12_lays.cd 36 = .ok (.goto (-33), 3) := by decide +kernel
theorem dX12_lays_39 : decode mX12_lays.cd 39 = .ok (.return_, 1) := by decide +kernel
theorem bX12_lays_0 {fr M1 M2 b1 b2 : Nat} {Q : RS → Nat → AH → Prop} {h : AH} {l1 : Int} {x2 : AV}   (kk : Wp mX12_lays (kR fr M1 M2) Q (b1, b2) 3 [zR 98, zI l1, zI 24] [] 137 h) : Wp mX12_lays (kR fr M1 M2) Q (b1, b2) 0 [zR 98, zI l1, x2] [] 137 h := by
  refine s_fgt (fgt_c (fgt_c (fgt_n _ fgt_0))) ?_
  refine s_bipush dX12_lays_0 (by decide) ?_
  refine s_istore_n dX12_lays_2 rfl (by decide) ?_
  exact kk
theorem bX12_lays_3 {fr M1 M2 b1 b2 : Nat} {Q : RS → Nat → AH → Prop} {h : AH} {l1 l2 : Int}  (r1 : -2147483648 ≤ l2 ∧ l2 < 2147483648 := by omega) (kt : l2 < 0 → Wp mX12_lays (kR fr M1 M2) Q (b1, b2) 39 [zR 98, zI l1, zI l2] [] 137 h) (kf : 0 ≤ l2 → Wp mX12_lays (kR fr M1 M2) Q (b1, b2) 7 [zR 98, zI l1, zI l2] [] 137 h) : Wp mX12_lays (kR fr M1 M2) Q (b1, b2) 3 [zR 98, zI l1, zI l2] [] 137 h := by
  refine s_iload_n (x := l2) dX12_lays_3 rfl ?_
  exact s_if_lt (tgt := 39) dX12_lays_4 (by decide) r1 kt kf
theorem bX12_lays_7 {fr M1 M2 b1 b2 : Nat} {Q : RS → Nat → AH → Prop} {h : AH} {l1 l2 : Int}  (r1 : 0 ≤ l2 ∧ l2 < 32 := by omega) (r2 : -2147483648 ≤ l1 ∧ l1 < 2147483648 := by omega) (r3 : 0 ≤ h 98 16 ∧ h 98 16 < 700 := by omega) (kk : Wp mX12_lays (kR fr M1 M2) Q (b1, b2) 3 [zR 98, zI l1, zI (l2 + (-8))] [] 137 (up (up h 106 (h 98 16) (bAnd (l1 / 2 ^ l2.toNat) 255)) 98 16 ((h 98 16) + 1))) : Wp mX12_lays (kR fr M1 M2) Q (b1, b2) 7 [zR 98, zI l1, zI l2] [] 137 h := by
  refine s_aload_n (x := 98) dX12_lays_7 rfl ?_
  refine s_getFd (c := 98) (d := 106) dX12_lays_8 lX12_35 e98 (Or.inl rfl) (by decide) (by decide) ?_
  refine s_aload_n (x := 98) dX12_lays_11 rfl ?_
  refine s_get (c := 98) dX12_lays_12 lX12_139 e98 (by decide) ?_
  refine s_iload_n (x := l1) dX12_lays_15 rfl ?_
  refine s_iload_n (x := l2) dX12_lays_16 rfl ?_
  refine s_ishrN dX12_lays_17 r2 r1.1 r1.2 ?_
  refine s_sipush dX12_lays_18 (by decide) ?_
  refine s_iand dX12_lays_21 ?_
  refine s_iast (c := 106) (i := h 98 16) dX12_lays_22 e106 r3.1 r3.2 ?_
  refine s_aload_n (x := 98) dX12_lays_23 rfl ?_
  refine s_dup dX12_lays_24 rfl ?_
  refine s_get (c := 98) dX12_lays_25 lX12_139 e98 (by decide) ?_
  refine s_iconst dX12_lays_28 ?_
  refine s_iadd dX12_lays_29 ?_
  refine s_put (c := 98) dX12_lays_30 lX12_139 e98 ?_
  refine s_iinc (x := l2) dX12_lays_33 rfl rfl (by decide) ?_
  exact s_goto (tgt := 3) dX12_lays_36 (by decide) kk
theorem bX12_lays_39 {fr M1 M2 b1 b2 : Nat} {Q : RS → Nat → AH → Prop} {h : AH} {x0 x1 x2 : AV}   (hq : Q (.inl none) 137 h) : Wp mX12_lays (kR fr M1 M2) Q (b1, b2) 39 [x0, x1, x2] [] 137 h := by
  refine s_fgt (fgt_n _ (fgt_n _ (fgt_n _ fgt_0))) ?_
  exact s_return dX12_lays_39 rfl hq (fun z => by cases z)
theorem dX12_byteAt_0 : decode mX12_byteAt.cd 0 = .ok (.iload_n 1, 1) := by decide +kernel
theorem dX12_byteAt_1 : decode mX12_byteAt.cd 1 = .ok (.aload_n 0, 1) := by decide +kernel
theorem dX12_byteAt_2 : decode mX12_byteAt.cd 2 = .ok (.getfield 146, 3) := by decide +kernel
theorem dX12_byteAt_5 : decode mX12_byteAt.cd 5 = .ok (.if_icmp .ge 12, 3) := by decide +kernel
theorem dX12_byteAt_8 : decode mX12_byteAt.cd 8 = .ok (.aload_n 0, 1) := by decide +kernel
theorem dX12_byteAt_9 : decode mX12_byteAt.cd 9 = .ok (.getfield 35, 3) := by decide +kernel
theorem dX12_byteAt_12 : decode mX12_byteAt.cd 12 = .ok (.iload_n 1, 1) := by decide +kernel
theorem dX12_byteAt_13 : decode mX12_byteAt.cd 13 = .ok (.iaload, 1) := by decide +kernel
theorem dX12_byteAt_14 : decode mX12_byteAt.cd 14 = .ok (.goto 4, 3) := by decide +kernel
theorem dX12_byteAt_17 : decode mX12_byteAt.cd 17 = .ok (.iconst 0, 1) := by decide +kernel
theorem dX12_byteAt_18 : decode mX12_byteAt.cd 18 = .ok (.ireturn, 1) := by decide +kernel
theorem bX12_byteAt_0 {fr M1 M2 b1 b2 : Nat} {Q : RS → Nat → AH → Prop} {h : AH} {l1 : Int}  (r1 : -2147483648 ≤ l1 ∧ l1 < 2147483648 := by omega) (r2 : -2147483648 ≤ h 98 20 ∧ h 98 20 < 2147483648 := by omega) (kt : h 98 20 ≤ l1 → Wp mX12_byteAt (kR fr M1 M2) Q (b1, b2) 17 [zR 98, zI l1] [] 137 h) (kf : l1 < h 98 20 → Wp mX12_byteAt (kR fr M1 M2) Q (b1, b2) 8 [zR 98, zI l1] [] 137 h) : Wp mX12_byteAt (kR fr M1 M2) Q (b1, b2) 0 [zR 98, zI l1] [] 137 h := by
  refine s_iload_n (x := l1) dX12_byteAt_0 rfl ?_
  refine s_aload_n (x := 98) dX12_byteAt_1 rfl ?_
  refine s_get (c := 98) dX12_byteAt_2 lX12_146 e98 (by decide) ?_
  exact s_icmp_ge (tgt := 17) dX12_byteAt_5 (by decide) r1 r2 kt kf
theorem bX12_byteAt_8 {fr M1 M2 b1 b2 : Nat} {Q : RS → Nat → AH → Prop} {h : AH} {l1 : Int}  (r1 : 0 ≤ l1 ∧ l1 < 700 := by omega) (kk : Wp mX12_byteAt (kR fr M1 M2) Q (b1, b2) 18 [zR 98, zI l1] [zI (h 106 l1)] 137 h) : Wp mX12_byteAt (kR fr M1 M2) Q (b1, b2) 8 [zR 98, zI l1] [] 137 h := by
  refine s_aload_n (x := 98) dX12_byteAt_8 rfl ?_
  refine s_getFd (c := 98) (d := 106) dX12_byteAt_9 lX12_35 e98 (Or.inl rfl) (by decide) (by decide) ?_
  refine s_iload_n (x := l1) dX12_byteAt_12 rfl ?_
  refine s_iald (c := 106) (i := l1) dX12_byteAt_13 e106 r1.1 r1.2 ?_
  exact s_goto (tgt := 18) dX12_byteAt_14 (by decide) kk
theorem bX12_byteAt_17 {fr M1 M2 b1 b2 : Nat} {Q : RS → Nat → AH → Prop} {h : AH} {x0 x1 : AV}   (kk : Wp mX12_byteAt (kR fr M1 M2) Q (b1, b2) 18 [none, none] [zI 0] 137 h) : Wp mX12_byteAt (kR fr M1 M2) Q (b1, b2) 17 [x0, x1] [] 137 h := by
  refine s_fgt (fgt_n _ (fgt_n _ fgt_0)) ?_
  refine s_iconst dX12_byteAt_17 ?_
  exact kk
theorem bX12_byteAt_18 {fr M1 M2 b1 b2 : Nat} {Q : RS → Nat → AH → Prop} {h : AH} {s0 : Int} {x0 x1 : AV}   (hq : Q (.inl (some (zI s0))) 137 h) : Wp mX12_byteAt (kR fr M1 M2) Q (b1, b2) 18 [x0, x1] [zI s0] 137 h := by
  refine s_fgt (fgt_n _ (fgt_n _ fgt_0)) ?_
  exact s_ireturn dX12_byteAt_18 ⟨.int, rfl, rfl⟩ hq (fun z => by cases z)
theorem dX12_isLetter_0 : decode mX12_isLetter.cd 0 = .ok (.iload_n 0, 1) := by decide +kernel
theorem dX12_isLetter_1 : decode mX12_isLetter.cd 1 = .ok (.bipush 97, 2) := by decide +kernel
theorem dX12_isLetter_3 : decode mX12_isLetter.cd 3 = .ok (.if_icmp .lt 13, 3) := by decide +kernel
theorem dX12_isLetter_6 : decode mX12_isLetter.cd 6 = .ok (.iload_n 0, 1) := by decide +kernel
theorem dX12_isLetter_7 : decode mX12_isLetter.cd 7 = .ok (.bipush 122, 2) := by decide +kernel
theorem dX12_isLetter_9 : decode mX12_isLetter.cd 9 = .ok (.if_icmp .gt 7, 3) := by decide +kernel
theorem dX12_isLetter_12 : decode mX12_isLetter.cd 12 = .ok (.iconst 1, 1) := by decide +kernel
theorem dX12_isLetter_13 : decode mX12_isLetter.cd 13 = .ok (.goto 4, 3) := by decide +kernel
theorem dX12_isLetter_16 : decode mX12_isLetter.cd 16 = .ok (.iconst 0, 1) := by decide +kernel
theorem dX12_isLetter_17 : decode mX12_isLetter.cd 17 = .ok (.ireturn, 1) := by decide +kernel
theorem bX12_isLetter_0 {fr M1 M2 b1 b2 : Nat} {Q : RS → Nat → AH → Prop} {h : AH} {l0 : Int}  (r1 : -2147483648 ≤ l0 ∧ l0 < 2147483648 := by omega) (kt : l0 < 97 → Wp mX12_isLetter (kR fr M1 M2) Q (b1, b2) 16 [zI l0] [] 137 h) (kf : 97 ≤ l0 → Wp mX12_isLetter (kR fr M1 M2) Q (b1, b2) 6 [zI l0] [] 137 h) : Wp mX12_isLetter (kR fr M1 M2) Q (b1, b2) 0 [zI l0] [] 137 h := by
  refine s_iload_n (x := l0) dX12_isLetter_0 rfl ?_
  refine s_bipush dX12_isLetter_1 (by decide) ?_
  exact s_icmp_lt (tgt := 16) dX12_isLetter_3 (by decide) r1 ⟨by decide, by decide⟩ kt kf
theorem bX12_isLetter_6 {fr M1 M2 b1 b2 : Nat} {Q : RS → Nat → AH → Prop} {h : AH} {l0 : Int}  (r1 : -2147483648 ≤ l0 ∧ l0 < 2147483648 := by omega) (kt : 122 < l0 → Wp mX12_isLetter (kR fr M1 M2) Q (b1, b2) 16 [zI l0] [] 137 h) (kf : l0 ≤ 122 → Wp mX12_isLetter (kR fr M1 M2) Q (b1, b2) 12 [zI l0] [] 137 h) : Wp mX12_isLetter (kR fr M1 M2) Q (b1, b2) 6 [zI l0] [] 137 h := by
  refine s_iload_n (x := l0) dX12_isLetter_6 rfl ?_
  refine s_bipush dX12_isLetter_7 (by decide) ?_
  exact s_icmp_gt (tgt := 16) dX12_isLetter_9 (by decide) r1 ⟨by decide, by decide⟩ kt kf
theorem bX12_isLetter_12 {fr M1 M2 b1 b2 : Nat} {Q : RS → Nat → AH → Prop} {h : AH} {x0 : AV}   (kk : Wp mX12_isLetter (kR fr M1 M2) Q (b1, b2) 17 [none] [zI 1] 137 h) : Wp mX12_isLetter (kR fr M1 M2) Q (b1, b2) 12 [x0] [] 137 h := by
  refine s_fgt (fgt_n _ fgt_0) ?_
  refine s_iconst dX12_isLetter_12 ?_
  exact s_goto (tgt := 17) dX12_isLetter_13 (by decide) kk
theorem bX12_isLetter_16 {fr M1 M2 b1 b2 : Nat} {Q : RS → Nat → AH → Prop} {h : AH} {x0 : AV}   (kk : Wp mX12_isLetter (kR fr M1 M2) Q (b1, b2) 17 [none] [zI 0] 137 h) : Wp mX12_isLetter (kR fr M1 M2) Q (b1, b2) 16 [x0] [] 137 h := by
  refine s_fgt (fgt_n _ fgt_0) ?_
  refine s_iconst dX12_isLetter_16 ?_
  exact kk
theorem bX12_isLetter_17 {fr M1 M2 b1 b2 : Nat} {Q : RS → Nat → AH → Prop} {h : AH} {s0 : Int} {x0 : AV}  (r1 : s0 = 0 ∨ s0 = 1 := by omega) (hq : Q (.inl (some (zI s0))) 137 h) : Wp mX12_isLetter (kR fr M1 M2) Q (b1, b2) 17 [x0] [zI s0] 137 h := by
  refine s_fgt (fgt_n _ fgt_0) ?_
  exact s_ireturn dX12_isLetter_17 ⟨.boolean, rfl, bool_nar r1⟩ hq (fun z => by cases z)
theorem dX12_isDigit_0 : decode mX12_isDigit.cd 0 = .ok (.iload_n 0, 1) := by decide +kernel
theorem dX12_isDigit_1 : decode mX12_isDigit.cd 1 = .ok (.bipush 48, 2) := by decide +kernel
theorem dX12_isDigit_3 : decode mX12_isDigit.cd 3 = .ok (.if_icmp .lt 13, 3) := by decide +kernel
theorem dX12_isDigit_6 : decode mX12_isDigit.cd 6 = .ok (.iload_n 0, 1) := by decide +kernel
theorem dX12_isDigit_7 : decode mX12_isDigit.cd 7 = .ok (.bipush 57, 2) := by decide +kernel
theorem dX12_isDigit_9 : decode mX12_isDigit.cd 9 = .ok (.if_icmp .gt 7, 3) := by decide +kernel
theorem dX12_isDigit_12 : decode mX12_isDigit.cd 12 = .ok (.iconst 1, 1) := by decide +kernel
theorem dX12_isDigit_13 : decode mX12_isDigit.cd 13 = .ok (.goto 4, 3) := by decide +kernel
theorem dX12_isDigit_16 : decode mX12_isDigit.cd 16 = .ok (.iconst 0, 1) := by decide +kernel
theorem dX12_isDigit_17 : decode mX12_isDigit.cd 17 = .ok (.ireturn, 1) := by decide +kernel
theorem bX12_isDigit_0 {fr M1 M2 b1 b2 : Nat} {Q : RS → Nat → AH → Prop} {h : AH} {l0 : Int}  (r1 : -2147483648 ≤ l0 ∧ l0 < 2147483648 := by omega) (kt : l0 < 48 → Wp mX12_isDigit (kR fr M1 M2) Q (b1, b2) 16 [zI l0] [] 137 h) (kf : 48 ≤ l0 → Wp mX12_isDigit (kR fr M1 M2) Q (b1, b2) 6 [zI l0] [] 137 h) : Wp mX12_isDigit (kR fr M1 M2) Q (b1, b2) 0 [zI l0] [] 137 h := by
  refine s_iload_n (x := l0) dX12_isDigit_0 rfl ?_
  refine s_bipush dX12_isDigit_1 (by decide) ?_
  exact s_icmp_lt (tgt := 16) dX12_isDigit_3 (by decide) r1 ⟨by decide, by decide⟩ kt kf
theorem bX12_isDigit_6 {fr M1 M2 b1 b2 : Nat} {Q : RS → Nat → AH → Prop} {h : AH} {l0 : Int}  (r1 : -2147483648 ≤ l0 ∧ l0 < 2147483648 := by omega) (kt : 57 < l0 → Wp mX12_isDigit (kR fr M1 M2) Q (b1, b2) 16 [zI l0] [] 137 h) (kf : l0 ≤ 57 → Wp mX12_isDigit (kR fr M1 M2) Q (b1, b2) 12 [zI l0] [] 137 h) : Wp mX12_isDigit (kR fr M1 M2) Q (b1, b2) 6 [zI l0] [] 137 h := by
  refine s_iload_n (x := l0) dX12_isDigit_6 rfl ?_
  refine s_bipush dX12_isDigit_7 (by decide) ?_
  exact s_icmp_gt (tgt := 16) dX12_isDigit_9 (by decide) r1 ⟨by decide, by decide⟩ kt kf
theorem bX12_isDigit_12 {fr M1 M2 b1 b2 : Nat} {Q : RS → Nat → AH → Prop} {h : AH} {x0 : AV}   (kk : Wp mX12_isDigit (kR fr M1 M2) Q (b1, b2) 17 [none] [zI 1] 137 h) : Wp mX12_isDigit (kR fr M1 M2) Q (b1, b2) 12 [x0] [] 137 h := by
  refine s_fgt (fgt_n _ fgt_0) ?_
  refine s_iconst dX12_isDigit_12 ?_
  exact s_goto (tgt := 17) dX12_isDigit_13 (by decide) kk
theorem bX12_isDigit_16 {fr M1 M2 b1 b2 : Nat} {Q : RS → Nat → AH → Prop} {h : AH} {x0 : AV}   (kk : Wp mX12_isDigit (kR fr M1 M2) Q (b1, b2) 17 [none] [zI 0] 137 h) : Wp mX12_isDigit (kR fr M1 M2) Q (b1, b2) 16 [x0] [] 137 h := by
  refine s_fgt (fgt_n _ fgt_0) ?_
  refine s_iconst dX12_isDigit_16 ?_
  exact kk
theorem bX12_isDigit_17 {fr M1 M2 b1 b2 : Nat} {Q : RS → Nat → AH → Prop} {h : AH} {s0 : Int} {x0 : AV}  (r1 : s0 = 0 ∨ s0 = 1 := by omega) (hq : Q (.inl (some (zI s0))) 137 h) : Wp mX12_isDigit (kR fr M1 M2) Q (b1, b2) 17 [x0] [zI s0] 137 h := by
  refine s_fgt (fgt_n _ fgt_0) ?_
  exact s_ireturn dX12_isDigit_17 ⟨.boolean, rfl, bool_nar r1⟩ hq (fun z => by cases z)
theorem dX12_steps_0 : decode mX12_steps.cd 0 = .ok (.aload_n 0, 1) := by decide +kernel
theorem dX12_steps_1 : decode mX12_steps.cd 1 = .ok (.getfield 149, 3) := by decide +kernel
theorem dX12_steps_4 : decode mX12_steps.cd 4 = .ok (.aload_n 0, 1) := by decide +kernel
theorem dX12_steps_5 : decode mX12_steps.cd 5 = .ok (.getfield 146, 3) := by decide +kernel
theorem dX12_steps_8 : decode mX12_steps.cd 8 = .ok (.if_icmp .ge 42, 3) := by decide +kernel
theorem dX12_steps_11 : decode mX12_steps.cd 11 = .ok (.aload_n 0, 1) := by decide +kernel
theorem dX12_steps_12 : decode mX12_steps.cd 12 = .ok (.aload_n 0, 1) := by decide +kernel
theorem dX12_steps_13 : decode mX12_steps.cd 13 = .ok (.getfield 149, 3) := by decide +kernel
theorem dX12_steps_16 : decode mX12_steps.cd 16 = .ok (.invokevirtual 152, 3) := by decide +kernel
theorem dX12_steps_19 : decode mX12_steps.cd 19 = .ok (.bipush 32, 2) := by decide +kernel
theorem dX12_steps_21 : decode mX12_steps.cd 21 = .ok (.if_icmp .eq 16, 3) := by decide +kernel
theorem dX12_steps_24 : decode mX12_steps.cd 24 = .ok (.aload_n 0, 1) := by decide +kernel
theorem dX12_steps_25 : decode mX12_steps.cd 25 = .ok (.aload_n 0, 1) := by decide +kernel
theorem dX12_steps_26 : decode mX12_steps.cd 26 = .ok (.getfield 149, 3) := by decide +kernel
theorem dX12_steps_29 : decode mX12_steps.cd 29 = .ok (.invokevirtual 152, 3) := by decide +kernel
theorem dX12_steps_32 : decode mX12_steps.cd 32 = .ok (.bipush 10, 2) := by decide +kernel
theorem dX12_steps_34 : decode mX12_steps.cd 34 = .ok (.if_icmp .ne 16, 3) := by decide +kernel
theorem dX12_steps_37 : decode mX12_steps.cd 37 = .ok (.aload_n 0, 1) := by decide +kernel
theorem dX12_steps_38 : decode mX12_steps.cd 38 = .ok (.dup, 1) := by decide +kernel
theorem dX12_steps_39 : decode mX12_steps.cd 39 = .ok (.getfield 149, 3) := by decide +kernel
theorem dX12_steps_42 : decode mX12_steps.cd 42 = .ok (.iconst 1, 1) := by decide +kernel
theorem dX12_steps_43 : decode mX12_steps.cd 43 = .ok (.iadd, 1) := by decide +kernel
theorem dX12_steps_44 : decode mX12_steps.cd 44 = .ok (.putfield 149, 3) := by decide +kernel
theorem dX12_steps_47 : decode mX12_steps.cd 47 = .ok (.goto (-47), 3) := by decide +kernel
theorem dX12_steps_50 : decode mX12_steps.cd 50 = .ok (.aload_n 0, 1) := by decide +kernel
theorem dX12_steps_51 : decode mX12_steps.cd 51 = .ok (.aload_n 0, 1) := by decide +kernel
theorem dX12_steps_52 : decode mX12_steps.cd 52 = .ok (.getfield 149, 3) := by decide +kernel
theorem dX12_steps_55 : decode mX12_steps.cd 55 = .ok (.putfield 156, 3) := by decide +kernel
theorem dX12_steps_58 : decode mX12_steps.cd 58 = .ok (.aload_n 0, 1) := by decide +kernel
theorem dX12_steps_59 : decode mX12_steps.cd 59 = .ok (.lconst 0, 1) := by decide +kernel
theorem dX12_steps_60 : decode mX12_steps.cd 60 = .ok (.putfield 159, 3) := by decide +kernel
theorem dX12_steps_63 : decode mX12_steps.cd 63 = .ok (.aload_n 0, 1) := by decide +kernel
theorem dX12_steps_64 : decode mX12_steps.cd 64 = .ok (.iconst 0, 1) := by decide +kernel
theorem dX12_steps_65 : decode mX12_steps.cd 65 = .ok (.putfield 163, 3) := by decide +kernel
theorem dX12_steps_68 : decode mX12_steps.cd 68 = .ok (.aload_n 0, 1) := by decide +kernel
theorem dX12_steps_69 : decode mX12_steps.cd 69 = .ok (.aload_n 0, 1) := by decide +kernel
theorem dX12_steps_70 : decode mX12_steps.cd 70 = .ok (.getfield 149, 3) := by decide +kernel
theorem dX12_steps_73 : decode mX12_steps.cd 73 = .ok (.invokevirtual 152, 3) := by decide +kernel
theorem dX12_steps_76 : decode mX12_steps.cd 76 = .ok (.istore_n 1, 1) := by decide +kernel
theorem dX12_steps_77 : decode mX12_steps.cd 77 = .ok (.aload_n 0, 1) := by decide +kernel
theorem dX12_steps_78 : decode mX12_steps.cd 78 = .ok (.getfield 149, 3) := by decide +kernel
theorem dX12_steps_81 : decode mX12_steps.cd 81 = .ok (.aload_n 0, 1) := by decide +kernel
theorem dX12_steps_82 : decode mX12_steps.cd 82 = .ok (.getfield 146, 3) := by decide +kernel
theorem dX12_steps_85 : decode mX12_steps.cd 85 = .ok (.if_icmp .lt 11, 3) := by decide +kernel
theorem dX12_steps_88 : decode mX12_steps.cd 88 = .ok (.aload_n 0, 1) := by decide +kernel
theorem dX12_steps_89 : decode mX12_steps.cd 89 = .ok (.iconst 0, 1) := by decide +kernel
theorem dX12_steps_90 : decode mX12_steps.cd 90 = .ok (.putfield 166, 3) := by decide +kernel
theorem dX12_steps_93 : decode mX12_steps.cd 93 = .ok (.goto 185, 3) := by decide +kernel
theorem dX12_steps_96 : decode mX12_steps.cd 96 = .ok (.iload_n 1, 1) := by decide +kernel
theorem dX12_steps_97 : decode mX12_steps.cd 97 = .ok (.invokestatic 169, 3) := by decide +kernel
theorem dX12_steps_100 : decode mX12_steps.cd 100 = .ok (.ifCond .eq 75, 3) := by decide +kernel
theorem dX12_steps_103 : decode mX12_steps.cd 103 = .ok (.aload_n 0, 1) := by decide +kernel
theorem dX12_steps_104 : decode mX12_steps.cd 104 = .ok (.aload_n 0, 1) := by decide +kernel
theorem dX12_steps_105 : decode mX12_steps.cd 105 = .ok (.getfield 149, 3) := by decide +kernel
theorem dX12_steps_108 : decode mX12_steps.cd 108 = .ok (.invokevirtual 152, 3) := by decide +kernel
theorem dX12_steps_111 : decode mX12_steps.cd 111 = .ok (.invokestatic 169, 3) := by decide +kernel
theorem dX12_steps_114 : decode mX12_steps.cd 114 = .ok (.ifCond .eq 53, 3) := by decide +kernel
theorem dX12_steps_117 : decode mX12_steps.cd 117 = .ok (.aload_n 0, 1) := by decide +kernel
theorem dX12_steps_118 : decode mX12_steps.cd 118 = .ok (.getfield 149, 3) := by decide +kernel
theorem dX12_steps_121 : decode mX12_steps.cd 121 = .ok (.aload_n 0, 1) := by decide +kernel
theorem dX12_steps_122 : decode mX12_steps.cd 122 = .ok (.getfield 156, 3) := by decide +kernel
theorem dX12_steps_125 : decode mX12_steps.cd 125 = .ok (.isub, 1) := by decide +kernel
theorem dX12_steps_126 : decode mX12_steps.cd 126 = .ok (.bipush 9, 2) := by decide +kernel
theorem dX12_steps_128 : decode mX12_steps.cd 128 = .ok (.if_icmp .ge 26, 3) := by decide +kernel
theorem dX12_steps_131 : decode mX12_steps.cd 131 = .ok (.aload_n 0, 1) := by decide +kernel
theorem dX12_steps_132 : decode mX12_steps.cd 132 = .ok (.aload_n 0, 1) := by decide +kernel
theorem dX12_steps_133 : decode mX12_steps.cd 133 = .ok (.getfield 159, 3) := by decide +kernel
theorem dX12_steps_136 : decode mX12_steps.cd 136 = .ok (.iconst 5, 1) := by decide +kernel
theorem dX12_steps_137 : decode mX12_steps.cd 137 = .ok (.lshl, 1) := by decide +kernel
theorem dX12_steps_138 : decode mX12_steps.cd 138 = .ok (.aload_n 0, 1) := by decide +kernel
theorem dX12_steps_139 : decode mX12_steps.cd 139 = .ok (.aload_n 0, 1) := by decide +kernel
theorem dX12_steps_140 : decode mX12_steps.cd 140 = .ok (.getfield 149, 3) := by decide +kernel
theorem dX12_steps_143 : decode mX12_steps.cd 143 = .ok (.invokevirtual 152, 3) := by decide +kernel
theorem dX12_steps_146 : decode mX12_steps.cd 146 = .ok (.bipush 96, 2) := by decide +kernel
theorem dX12_steps_148 : decode mX12_steps.cd 148 = .ok (.isub, 1) := by decide +kernel
theorem dX12_steps_149 : decode mX12_steps.cd 149 = .ok (.i2l, 1) := by decide +kernel
theorem dX12_steps_150 : decode mX12_steps.cd 150 = .ok (.lor, 1) := by decide +kernel
theorem dX12_steps_151 : decode mX12_steps.cd 151 = .ok (.putfield 159, 3) := by decide +kernel
theorem dX12_steps_154 : decode mX12_steps.cd 154 = .ok (.aload_n 0, 1) := by decide +kernel
theorem dX12_steps_155 : decode mX12_steps.cd 155 = .ok (.dup, 1) := by decide +kernel
theorem dX12_steps_156 : decode mX12_steps.cd 156 = .ok (.getfield 149, 3) := by decide +kernel
theorem dX12_steps_159 : decode mX12_steps.cd 159 = .ok (.iconst 1, 1) := by decide +kernel
theorem dX12_steps_160 : decode mX12_steps.cd 160 = .ok (.iadd, 1) := by decide +kernel
theorem dX12_steps_161 : decode mX12_steps.cd 161 = .ok (.putfield 149, 3) := by decide +kernel
theorem dX12_steps_164 : decode mX12_steps.cd 164 = .ok (.goto (-61), 3) := by decide +kernel
theorem dX12_steps_167 : decode mX12_steps.cd 167 = .ok (.aload_n 0, 1) := by decide +kernel
theorem dX12_steps_168 : decode mX12_steps.cd 168 = .ok (.iconst 1, 1) := by decide +kernel
theorem dX12_steps_169 : decode mX12_steps.cd 169 = .ok (.putfield 166, 3) := by decide +kernel
theorem dX12_steps_172 : decode mX12_steps.cd 172 = .ok (.goto 106, 3) := by decide +kernel
theorem dX12_steps_175 : decode mX12_steps.cd 175 = .ok (.iload_n 1, 1) := by decide +kernel
theorem dX12_steps_176 : decode mX12_steps.cd 176 = .ok (.invokestatic 173, 3) := by decide +kernel
theorem dX12_steps_179 : decode mX12_steps.cd 179 = .ok (.ifCond .eq 74, 3) := by decide +kernel
theorem dX12_steps_182 : decode mX12_steps.cd 182 = .ok (.aload_n 0, 1) := by decide +kernel
theorem dX12_steps_183 : decode mX12_steps.cd 183 = .ok (.aload_n 0, 1) := by decide +kernel
theorem dX12_steps_184 : decode mX12_steps.cd 184 = .ok (.getfield 149, 3) := by decide +kernel
theorem dX12_steps_187 : decode mX12_steps.cd 187 = .ok (.invokevirtual 152, 3) := by decide +kernel
theorem dX12_steps_190 : decode mX12_steps.cd 190 = .ok (.invokestatic 173, 3) := by decide +kernel
theorem dX12_steps_193 : decode mX12_steps.cd 193 = .ok (.ifCond .eq 52, 3) := by decide +kernel
theorem dX12_steps_196 : decode mX12_steps.cd 196 = .ok (.aload_n 0, 1) := by decide +kernel
theorem dX12_steps_197 : decode mX12_steps.cd 197 = .ok (.getfield 149, 3) := by decide +kernel
theorem dX12_steps_200 : decode mX12_steps.cd 200 = .ok (.aload_n 0, 1) := by decide +kernel
theorem dX12_steps_201 : decode mX12_steps.cd 201 = .ok (.getfield 156, 3) := by decide +kernel
theorem dX12_steps_204 : decode mX12_steps.cd 204 = .ok (.isub, 1) := by decide +kernel
theorem dX12_steps_205 : decode mX12_steps.cd 205 = .ok (.iconst 4, 1) := by decide +kernel
theorem dX12_steps_206 : decode mX12_steps.cd 206 = .ok (.if_icmp .ge 26, 3) := by decide +kernel
theorem dX12_steps_209 : decode mX12_steps.cd 209 = .ok (.aload_n 0, 1) := by decide +kernel
theorem dX12_steps_210 : decode mX12_steps.cd 210 = .ok (.bipush 10, 2) := by decide +kernel
theorem dX12_steps_212 : decode mX12_steps.cd 212 = .ok (.aload_n 0, 1) := by decide +kernel
theorem dX12_steps_213 : decode mX12_steps.cd 213 = .ok (.getfield 163, 3) := by decide +kernel
theorem dX12_steps_216 : decode mX12_steps.cd 216 = .ok (.imul, 1) := by decide +kernel
theorem dX12_steps_217 : decode mX12_steps.cd 217 = .ok (.aload_n 0, 1) := by decide +kernel
theorem dX12_steps_218 : decode mX12_steps.cd 218 = .ok (.aload_n 0, 1) := by decide +kernel
theorem dX12_steps_219 : decode mX12_steps.cd 219 = .ok (.getfield 149, 3) := by decide +kernel
theorem dX12_steps_222 : decode mX12_steps.cd 222 = .ok (.invokevirtual 152, 3) := by decide +kernel
theorem dX12_steps_225 : decode mX12_steps.cd 225 = .ok (.iadd, 1) := by decide +kernel
theorem dX12_steps_226 : decode mX12_steps.cd 226 = .ok (.bipush 48, 2) := by decide +kernel
theorem dX12_steps_228 : decode mX12_steps.cd 228 = .ok (.isub, 1) := by decide +kernel
theorem dX12_steps_229 : decode mX12_steps.cd 229 = .ok (.putfield 163, 3) := by decide +kernel
theorem dX12_steps_232 : decode mX12_steps.cd 232 = .ok (.aload_n 0, 1) := by decide +kernel
theorem dX12_steps_233 : decode mX12_steps.cd 233 = .ok (.dup, 1) := by decide +kernel
theorem dX12_steps_234 : decode mX12_steps.cd 234 = .ok (.getfield 149, 3) := by decide +kernel
theorem dX12_steps_237 : decode mX12_steps.cd 237 = .ok (.iconst 1, 1) := by decide +kernel
theorem dX12_steps_238 : decode mX12_steps.cd 238 = .ok (.iadd, 1) := by decide +kernel
theorem dX12_steps_239 : decode mX12_steps.cd 239 = .ok (.putfield 149, 3) := by decide +kernel
theorem dX12_steps_242 : decode mX12_steps.cd 242 = .ok (.goto (-60), 3) := by decide +kernel
theorem dX12_steps_245 : decode mX12_steps.cd 245 = .ok (.aload_n 0, 1) := by decide +kernel
theorem dX12_steps_246 : decode mX12_steps.cd 246 = .ok (.iconst 2, 1) := by decide +kernel
theorem dX12_steps_247 : decode mX12_steps.cd 247 = .ok (.putfield 166, 3) := by decide +kernel
theorem dX12_steps_250 : decode mX12_steps.cd 250 = .ok (.goto 28, 3) := by decide +kernel
theorem dX12_steps_253 : decode mX12_steps.cd 253 = .ok (.aload_n 0, 1) := by decide +kernel
theorem dX12_steps_254 : decode mX12_steps.cd 254 = .ok (.dup, 1) := by decide +kernel
theorem dX12_steps_255 : decode mX12_steps.cd 255 = .ok (.getfield 149, 3) := by decide +kernel
theorem dX12_steps_258 : decode mX12_steps.cd 258 = .ok (.iconst 1, 1) := by decide +kernel
theorem dX12_steps_259 : decode mX12_steps.cd 259 = .ok (.iadd, 1) := by decide +kernel
theorem dX12_steps_260 : decode mX12_steps.cd 260 = .ok (.putfield 149, 3) := by decide +kernel
theorem dX12_steps_263 : decode mX12_steps.cd 263 = .ok (.aload_n 0, 1) := by decide +kernel
theorem dX12_steps_264 : decode mX12_steps.cd 264 = .ok (.iload_n 1, 1) := by decide +kernel
theorem dX12_steps_265 : decode mX12_steps.cd 265 = .ok (.bipush 59, 2) := by decide +kernel
theorem dX12_steps_267 : decode mX12_steps.cd 267 = .ok (.if_icmp .ne 7, 3) := by decide +kernel
theorem dX12_steps_270 : decode mX12_steps.cd 270 = .ok (.iconst 3, 1) := by decide +kernel
theorem dX12_steps_271 : decode mX12_steps.cd 271 = .ok (.goto 4, 3) := by decide +kernel
theorem dX12_steps_274 : decode mX12_steps.cd 274 = .ok (.iconst 4, 1) := by decide +kernel
theorem dX12_steps_275 : decode mX12_steps.cd 275 = .ok (.putfield 166, 3) := by decide +kernel
theorem dX12_steps_278 : decode mX12_steps.cd 278 = .ok (.aload_n 0, 1) := by decide +kernel
theorem dX12_steps_279 : decode mX12_steps.cd 279 = .ok (.aload_n 0, 1) := by decide +kernel
theorem dX12_steps_280 : decode mX12_steps.cd 280 = .ok (.getfield 149, 3) := by decide +kernel
theorem dX12_steps_283 : decode mX12_steps.cd 283 = .ok (.aload_n 0, 1) := by decide +kernel
theorem dX12_steps_284 : decode mX12_steps.cd 284 = .ok (.getfield 156, 3) := by decide +kernel
theorem dX12_steps_287 : decode mX12_steps.cd 287 = .ok (.isub, 1) := by decide +kernel
theorem dX12_steps_288 : decode mX12_steps.cd 288 = .ok (.putfield 176, 3) := by decide +kernel
theorem dX12_steps_291 : decode mX12_steps.cd 291 = .ok (.return_, 1) := by decide +kernel
theorem bX12_steps_0 {fr M1 M2 b1 b2 : Nat} {Q : RS → Nat → AH → Prop} {h : AH} {x1 : AV}  (r1 : -2147483648 ≤ h 98 21 ∧ h 98 21 < 2147483648 := by omega) (r2 : -2147483648 ≤ h 98 20 ∧ h 98 20 < 2147483648 := by omega) (kt : h 98 20 ≤ h 98 21 → Wp mX12_steps (kR fr M1 M2) Q (b1, b2) 50 [zR 98, none] [] 137 h) (kf : h 98 21 < h 98 20 → Wp mX12_steps (kR fr M1 M2) Q (b1, b2) 11 [zR 98, none] [] 137 h) : Wp mX12_steps (kR fr M1 M2) Q (b1, b2) 0 [zR 98, x1] [] 137 h := by
  refine s_fgt (fgt_c (fgt_n _ fgt_0)) ?_
  refine s_aload_n (x := 98) dX12_steps_0 rfl ?_
  refine s_get (c := 98) dX12_steps_1 lX12_149 e98 (by decide) ?_
  refine s_aload_n (x := 98) dX12_steps_4 rfl ?_
  refine s_get (c := 98) dX12_steps_5 lX12_146 e98 (by decide) ?_
  exact s_icmp_ge (tgt := 50) dX12_steps_8 (by decide) r1 r2 kt kf
theorem bX12_steps_11 {fr M1 M2 b1 b2 : Nat} {Q : RS → Nat → AH → Prop} {h : AH} {x1 : AV} {R : Int → AH → Prop}   (hS : Sp mX12_byteAt true (fr - 1) 0 0 [zR 98, zI (h 98 21)] 137 h (rI R)) (hf : 1 ≤ fr := by omega) (kk : ∀ (x : Int) (h' : AH), R x h' → Wp mX12_steps (kR fr M1 M2) Q (b1, b2) 19 [zR 98, none] [zI x] 137 h') : Wp mX12_steps (kR fr M1 M2) Q (b1, b2) 11 [zR 98, x1] [] 137 h := by
  refine s_fgt (fgt_c (fgt_n _ fgt_0)) ?_
  refine s_aload_n (x := 98) dX12_steps_11 rfl ?_
  refine s_aload_n (x := 98) dX12_steps_12 rfl ?_
  refine s_get (c := 98) dX12_steps_13 lX12_149 e98 (by decide) ?_
  exact s_callV (as := [zI (h 98 21)]) (st := []) (o := 98) dX12_steps_16 kX12_152 rfl ⟨12, 87, TX12, e98, rfl, by decide⟩ rfl rfl (Nat.le_of_ble_eq_true rfl) hS (show fr - 1 + 1 ≤ fr by omega) (Nat.zero_le _) (Nat.zero_le _) (fun v n' h' hP _ => by obtain ⟨x, e, rfl, hR⟩ := hP; cases e; exact kk x h' hR) (fun E n' h' _ z => (rI_nt _ _ _ z).elim)
theorem bX12_steps_19 {fr M1 M2 b1 b2 : Nat} {Q : RS → Nat → AH → Prop} {h : AH} {s0 : Int} {x1 : AV}  (r1 : -2147483648 ≤ s0 ∧ s0 < 2147483648 := by omega) (kt : s0 = 32 → Wp mX12_steps (kR fr M1 M2) Q (b1, b2) 37 [zR 98, none] [] 137 h) (kf : ¬ s0 = 32 → Wp mX12_steps (kR fr M1 M2) Q (b1, b2) 24 [zR 98, none] [] 137 h) : Wp mX12_steps (kR fr M1 M2) Q (b1, b2) 19 [zR 98, x1] [zI s0] 137 h := by
  refine s_fgt (fgt_c (fgt_n _ fgt_0)) ?_
  refine s_bipush dX12_steps_19 (by decide) ?_
  exact s_icmp_eq (tgt := 37) dX12_steps_21 (by decide) r1 ⟨by decide, by decide⟩ kt kf
theorem bX12_steps_24 {fr M1 M2 b1 b2 : Nat} {Q : RS → Nat → AH → Prop} {h : AH} {x1 : AV} {R : Int → AH → Prop}   (hS : Sp mX12_byteAt true (fr - 1) 0 0 [zR 98, zI (h 98 21)] 137 h (rI R)) (hf : 1 ≤ fr := by omega) (kk : ∀ (x : Int) (h' : AH), R x h' → Wp mX12_steps (kR fr M1 M2) Q (b1, b2) 32 [zR 98, none] [zI x] 137 h') : Wp mX12_steps (kR fr M1 M2) Q (b1, b2) 24 [zR 98, x1] [] 137 h := by
  refine s_fgt (fgt_c (fgt_n _ fgt_0)) ?_
  refine s_aload_n (x := 98) dX12_steps_24 rfl ?_
  refine s_aload_n (x := 98) dX12_steps_25 rfl ?_
  refine s_get (c := 98) dX12_steps_26 lX12_149 e98 (by decide) ?_
  exact s_callV (as := [zI (h 98 21)]) (st := []) (o := 98) dX12_steps_29 kX12_152 rfl ⟨12, 87, TX12, e98, rfl, by decide⟩ rfl rfl (Nat.le_of_ble_eq_true rfl) hS (show fr - 1 + 1 ≤ fr by omega) (Nat.zero_le _) (Nat.zero_le _) (fun v n' h' hP _ => by obtain ⟨x, e, rfl, hR⟩ := hP; cases e; exact kk x h' hR) (fun E n' h' _ z => (rI_nt _ _ _ z).elim)
theorem bX12_steps_32 {fr M1 M2 b1 b2 : Nat} {Q : RS → Nat → AH → Prop} {h : AH} {s0 : Int} {x1 : AV}  (r1 : -2147483648 ≤ s0 ∧ s0 < 2147483648 := by omega) (kt : ¬ s0 = 10 → Wp mX12_steps (kR fr M1 M2) Q (b1, b2) 50 [zR 98, none] [] 137 h) (kf : s0 = 10 → Wp mX12_steps (kR fr M1 M2) Q (b1, b2) 37 [zR 98, none] [] 137 h) : Wp mX12_steps (kR fr M1 M2) Q (b1, b2) 32 [zR 98, x1] [zI s0] 137 h := by
  refine s_fgt (fgt_c (fgt_n _ fgt_0)) ?_
  refine s_bipush dX12_steps_32 (by decide) ?_
  exact s_icmp_ne (tgt := 50) dX12_steps_34 (by decide) r1 ⟨by decide, by decide⟩ kt kf
theorem bX12_steps_37 {fr M1 M2 b1 b2 : Nat} {Q : RS → Nat → AH → Prop} {h : AH} {x1 : AV}   (kk : Wp mX12_steps (kR fr M1 M2) Q (b1, b2) 0 [zR 98, none] [] 137 (up h 98 21 ((h 98 21) + 1))) : Wp mX12_steps (kR fr M1 M2) Q (b1, b2) 37 [zR 98, x1] [] 137 h := by
  refine s_fgt (fgt_c (fgt_n _ fgt_0)) ?_
  refine s_aload_n (x := 98) dX12_steps_37 rfl ?_
  refine s_dup dX12_steps_38 rfl ?_
  refine s_get (c := 98) dX12_steps_39 lX12_149 e98 (by decide) ?_
  refine s_iconst dX12_steps_42 ?_
  refine s_iadd dX12_steps_43 ?_
  refine s_put (c := 98) dX12_steps_44 lX12_149 e98 ?_
  exact s_goto (tgt := 0) dX12_steps_47 (by decide) kk
theorem bX12_steps_50 {fr M1 M2 b1 b2 : Nat} {Q : RS → Nat → AH → Prop} {h : AH} {x1 : AV} {R : Int → AH → Prop}   (hS : Sp mX12_byteAt true (fr - 1) 0 0 [zR 98, zI (h 98 21)] 137 (up (up (up h 98 23 (h 98 21)) 98 26 0) 98 25 0) (rI R)) (hf : 1 ≤ fr := by omega) (kk : ∀ (x : Int) (h' : AH), R x h' → Wp mX12_steps (kR fr M1 M2) Q (b1, b2) 76 [zR 98, none] [zI x] 137 h') : Wp mX12_steps (kR fr M1 M2) Q (b1, b2) 50 [zR 98, x1] [] 137 h := by
  refine s_fgt (fgt_c (fgt_n _ fgt_0)) ?_
  refine s_aload_n (x := 98) dX12_steps_50 rfl ?_
  refine s_aload_n (x := 98) dX12_steps_51 rfl ?_
  refine s_get (c := 98) dX12_steps_52 lX12_149 e98 (by decide) ?_
  refine s_put (c := 98) dX12_steps_55 lX12_156 e98 ?_
  refine s_aload_n (x := 98) dX12_steps_58 rfl ?_
  refine s_lconst (v := 0) dX12_steps_59 (by decide) ?_
  refine s_putL (c := 98) dX12_steps_60 lX12_159 e98 ?_
  refine s_aload_n (x := 98) dX12_steps_63 rfl ?_
  refine s_iconst dX12_steps_64 ?_
  refine s_put (c := 98) dX12_steps_65 lX12_163 e98 ?_
  refine s_aload_n (x := 98) dX12_steps_68 rfl ?_
  refine s_aload_n (x := 98) dX12_steps_69 rfl ?_
  refine s_get (c := 98) dX12_steps_70 lX12_149 e98 (by decide) ?_
  exact s_callV (as := [zI (h 98 21)]) (st := []) (o := 98) dX12_steps_73 kX12_152 rfl ⟨12, 87, TX12, e98, rfl, by decide⟩ rfl rfl (Nat.le_of_ble_eq_true rfl) hS (show fr - 1 + 1 ≤ fr by omega) (Nat.zero_le _) (Nat.zero_le _) (fun v n' h' hP _ => by obtain ⟨x, e, rfl, hR⟩ := hP; cases e; exact kk x h' hR) (fun E n' h' _ z => (rI_nt _ _ _ z).elim)
theorem bX12_steps_76 {fr M1 M2 b1 b2 : Nat} {Q : RS → Nat → AH → Prop} {h : AH} {s0 : Int} {x1 : AV}  (r1 : -2147483648 ≤ h 98 21 ∧ h 98 21 < 2147483648 := by omega) (r2 : -2147483648 ≤ h 98 20 ∧ h 98 20 < 2147483648 := by omega) (kt : h 98 21 < h 98 20 → Wp mX12_steps (kR fr M1 M2) Q (b1, b2) 96 [zR 98, zI s0] [] 137 h) (kf : h 98 20 ≤ h 98 21 → Wp mX12_steps (kR fr M1 M2) Q (b1, b2) 88 [zR 98, zI s0] [] 137 h) : Wp mX12_steps (kR fr M1 M2) Q (b1, b2) 76 [zR 98, x1] [zI s0] 137 h := by
  refine s_fgt (fgt_c (fgt_n _ fgt_0)) ?_
  refine s_istore_n dX12_steps_76 rfl (by decide) ?_
  refine s_aload_n (x := 98) dX12_steps_77 rfl ?_
  refine s_get (c := 98) dX12_steps_78 lX12_149 e98 (by decide) ?_
  refine s_aload_n (x := 98) dX12_steps_81 rfl ?_
  refine s_get (c := 98) dX12_steps_82 lX12_146 e98 (by decide) ?_
  exact s_icmp_lt (tgt := 96) dX12_steps_85 (by decide) r1 r2 kt kf
theorem bX12_steps_88 {fr M1 M2 b1 b2 : Nat} {Q : RS → Nat → AH → Prop} {h : AH} {x1 : AV}   (kk : Wp mX12_steps (kR fr M1 M2) Q (b1, b2) 278 [zR 98, none] [] 137 (up h 98 22 0)) : Wp mX12_steps (kR fr M1 M2) Q (b1, b2) 88 [zR 98, x1] [] 137 h := by
  refine s_fgt (fgt_c (fgt_n _ fgt_0)) ?_
  refine s_aload_n (x := 98) dX12_steps_88 rfl ?_
  refine s_iconst dX12_steps_89 ?_
  refine s_put (c := 98) dX12_steps_90 lX12_166 e98 ?_
  exact s_goto (tgt := 278) dX12_steps_93 (by decide) kk
theorem bX12_steps_96 {fr M1 M2 b1 b2 : Nat} {Q : RS → Nat → AH → Prop} {h : AH} {l1 : Int} {R : Int → AH → Prop}   (hS : Sp mX12_isLetter true (fr - 1) 0 0 [zI l1] 137 h (rI R)) (hf : 1 ≤ fr := by omega) (kk : ∀ (x : Int) (h' : AH), R x h' → Wp mX12_steps (kR fr M1 M2) Q (b1, b2) 100 [zR 98, zI l1] [zI x] 137 h') : Wp mX12_steps (kR fr M1 M2) Q (b1, b2) 96 [zR 98, zI l1] [] 137 h := by
  refine s_iload_n (x := l1) dX12_steps_96 rfl ?_
  exact s_callS (as := [zI l1]) (st := []) dX12_steps_97 kX12_169 rfl rfl (Nat.le_of_ble_eq_true rfl) hS (show fr - 1 + 1 ≤ fr by omega) (Nat.zero_le _) (Nat.zero_le _) (fun v n' h' hP _ => by obtain ⟨x, e, rfl, hR⟩ := hP; cases e; exact kk x h' hR) (fun E n' h' _ z => (rI_nt _ _ _ z).elim)
theorem bX12_steps_100 {fr M1 M2 b1 b2 : Nat} {Q : RS → Nat → AH → Prop} {h : AH} {l1 s0 : Int}  (r1 : -2147483648 ≤ s0 ∧ s0 < 2147483648 := by omega) (kt : s0 = 0 → Wp mX12_steps (kR fr M1 M2) Q (b1, b2) 175 [zR 98, zI l1] [] 137 h) (kf : ¬ s0 = 0 → Wp mX12_steps (kR fr M1 M2) Q (b1, b2) 103 [zR 98, zI l1] [] 137 h) : Wp mX12_steps (kR fr M1 M2) Q (b1, b2) 100 [zR 98, zI l1] [zI s0] 137 h := by
  exact s_if_eq (tgt := 175) dX12_steps_100 (by decide) r1 kt kf
theorem bX12_steps_103 {fr M1 M2 b1 b2 : Nat} {Q : RS → Nat → AH → Prop} {h : AH} {x1 : AV} {R : Int → AH → Prop}   (hS : Sp mX12_byteAt true (fr - 1) 0 0 [zR 98, zI (h 98 21)] 137 h (rI R)) (hf : 1 ≤ fr := by omega) (kk : ∀ (x : Int) (h' : AH), R x h' → Wp mX12_steps (kR fr M1 M2) Q (b1, b2) 111 [zR 98, none] [zI x] 137 h') : Wp mX12_steps (kR fr M1 M2) Q (b1, b2) 103 [zR 98, x1] [] 137 h := by
  refine s_fgt (fgt_c (fgt_n _ fgt_0)) ?_
  refine s_aload_n (x := 98) dX12_steps_103 rfl ?_
  refine s_aload_n (x := 98) dX12_steps_104 rfl ?_
  refine s_get (c := 98) dX12_steps_105 lX12_149 e98 (by decide) ?_
  exact s_callV (as := [zI (h 98 21)]) (st := []) (o := 98) dX12_steps_108 kX12_152 rfl ⟨12, 87, TX12, e98, rfl, by decide⟩ rfl rfl (Nat.le_of_ble_eq_true rfl) hS (show fr - 1 + 1 ≤ fr by omega) (Nat.zero_le _) (Nat.zero_le _) (fun v n' h' hP _ => by obtain ⟨x, e, rfl, hR⟩ := hP; cases e; exact kk x h' hR) (fun E n' h' _ z => (rI_nt _ _ _ z).elim)
theorem bX12_steps_111 {fr M1 M2 b1 b2 : Nat} {Q : RS → Nat → AH → Prop} {h : AH} {s0 : Int} {x1 : AV} {R : Int → AH → Prop}   (hS : Sp mX12_isLetter true (fr - 1) 0 0 [zI s0] 137 h (rI R)) (hf : 1 ≤ fr := by omega) (kk : ∀ (x : Int) (h' : AH), R x h' → Wp mX12_steps (kR fr M1 M2) Q (b1, b2) 114 [zR 98, none] [zI x] 137 h') : Wp mX12_steps (kR fr M1 M2) Q (b1, b2) 111 [zR 98, x1] [zI s0] 137 h := by
  refine s_fgt (fgt_c (fgt_n _ fgt_0)) ?_
  exact s_callS (as := [zI s0]) (st := []) dX12_steps_111 kX12_169 rfl rfl (Nat.le_of_ble_eq_true rfl) hS (show fr - 1 + 1 ≤ fr by omega) (Nat.zero_le _) (Nat.zero_le _) (fun v n' h' hP _ => by obtain ⟨x, e, rfl, hR⟩ := hP; cases e; exact kk x h' hR) (fun E n' h' _ z => (rI_nt _ _ _ z).elim)
theorem bX12_steps_114 {fr M1 M2 b1 b2 : Nat} {Q : RS → Nat → AH → Prop} {h : AH} {s0 : Int} {x1 : AV}  (r1 : -2147483648 ≤ s0 ∧ s0 < 2147483648 := by omega) (kt : s0 = 0 → Wp mX12_steps (kR fr M1 M2) Q (b1, b2) 167 [zR 98, none] [] 137 h) (kf : ¬ s0 = 0 → Wp mX12_steps (kR fr M1 M2) Q (b1, b2) 117 [zR 98, none] [] 137 h) : Wp mX12_steps (kR fr M1 M2) Q (b1, b2) 114 [zR 98, x1] [zI s0] 137 h := by
  refine s_fgt (fgt_c (fgt_n _ fgt_0)) ?_
  exact s_if_eq (tgt := 167) dX12_steps_114 (by decide) r1 kt kf
theorem bX12_steps_117 {fr M1 M2 b1 b2 : Nat} {Q : RS → Nat → AH → Prop} {h : AH} {x1 : AV}  (r1 : -2147483648 ≤ (h 98 21) - (h 98 23) ∧ (h 98 21) - (h 98 23) < 2147483648 := by omega) (kt : 9 ≤ (h 98 21) - (h 98 23) → Wp mX12_steps (kR fr M1 M2) Q (b1, b2) 154 [zR 98, none] [] 137 h) (kf : (h 98 21) - (h 98 23) < 9 → Wp mX12_steps (kR fr M1 M2) Q (b1, b2) 131 [zR 98, none] [] 137 h) : Wp mX12_steps (kR fr M1 M2) Q (b1, b2) 117 [zR 98, x1] [] 137 h := by
  refine s_fgt (fgt_c (fgt_n _ fgt_0)) ?_
  refine s_aload_n (x := 98) dX12_steps_117 rfl ?_
  refine s_get (c := 98) dX12_steps_118 lX12_149 e98 (by decide) ?_
  refine s_aload_n (x := 98) dX12_steps_121 rfl ?_
  refine s_get (c := 98) dX12_steps_122 lX12_156 e98 (by decide) ?_
  refine s_isub dX12_steps_125 ?_
  refine s_bipush dX12_steps_126 (by decide) ?_
  exact s_icmp_ge (tgt := 154) dX12_steps_128 (by decide) r1 ⟨by decide, by decide⟩ kt kf
theorem bX12_steps_131 {fr M1 M2 b1 b2 : Nat} {Q : RS → Nat → AH → Prop} {h : AH} {x1 : AV} {R : Int → AH → Prop}   (hS : Sp mX12_byteAt true (fr - 1) 0 0 [zR 98, zI (h 98 21)] 137 h (rI R)) (hf : 1 ≤ fr := by omega) (kk : ∀ (x : Int) (h' : AH), R x h' → Wp mX12_steps (kR fr M1 M2) Q (b1, b2) 146 [zR 98, none] [zI x, zL (lShl (h 98 26) 5), zR 98] 137 h') : Wp mX12_steps (kR fr M1 M2) Q (b1, b2) 131 [zR 98, x1] [] 137 h := by
  refine s_fgt (fgt_c (fgt_n _ fgt_0)) ?_
  refine s_aload_n (x := 98) dX12_steps_131 rfl ?_
  refine s_aload_n (x := 98) dX12_steps_132 rfl ?_
  refine s_getL (c := 98) dX12_steps_133 lX12_159 e98 rfl ?_
  refine s_iconst dX12_steps_136 ?_
  refine s_lshl dX12_steps_137 ?_
  refine s_aload_n (x := 98) dX12_steps_138 rfl ?_
  refine s_aload_n (x := 98) dX12_steps_139 rfl ?_
  refine s_get (c := 98) dX12_steps_140 lX12_149 e98 (by decide) ?_
  exact s_callV (as := [zI (h 98 21)]) (st := [zL (lShl (h 98 26) 5), zR 98]) (o := 98) dX12_steps_143 kX12_152 rfl ⟨12, 87, TX12, e98, rfl, by decide⟩ rfl rfl (Nat.le_of_ble_eq_true rfl) hS (show fr - 1 + 1 ≤ fr by omega) (Nat.zero_le _) (Nat.zero_le _) (fun v n' h' hP _ => by obtain ⟨x, e, rfl, hR⟩ := hP; cases e; exact kk x h' hR) (fun E n' h' _ z => (rI_nt _ _ _ z).elim)
theorem bX12_steps_146 {fr M1 M2 b1 b2 : Nat} {Q : RS → Nat → AH → Prop} {h : AH} {s1 s0 : Int} {x1 : AV}   (kk : Wp mX12_steps (kR fr M1 M2) Q (b1, b2) 154 [zR 98, none] [] 137 (up h 98 26 (lOr s1 (i2l (s0 - 96))))) : Wp mX12_steps (kR fr M1 M2) Q (b1, b2) 146 [zR 98, x1] [zI s0, zL s1, zR 98] 137 h := by
  refine s_fgt (fgt_c (fgt_n _ fgt_0)) ?_
  refine s_bipush dX12_steps_146 (by decide) ?_
  refine s_isub dX12_steps_148 ?_
  refine s_i2l dX12_steps_149 ?_
  refine s_lor dX12_steps_150 ?_
  refine s_putL (c := 98) dX12_steps_151 lX12_159 e98 ?_
  exact kk
theorem bX12_steps_154 {fr M1 M2 b1 b2 : Nat} {Q : RS → Nat → AH → Prop} {h : AH} {x1 : AV}   (kk : Wp mX12_steps (kR fr M1 M2) Q (b1, b2) 103 [zR 98, none] [] 137 (up h 98 21 ((h 98 21) + 1))) : Wp mX12_steps (kR fr M1 M2) Q (b1, b2) 154 [zR 98, x1] [] 137 h := by
  refine s_fgt (fgt_c (fgt_n _ fgt_0)) ?_
  refine s_aload_n (x := 98) dX12_steps_154 rfl ?_
  refine s_dup dX12_steps_155 rfl ?_
  refine s_get (c := 98) dX12_steps_156 lX12_149 e98 (by decide) ?_
  refine s_iconst dX12_steps_159 ?_
  refine s_iadd dX12_steps_160 ?_
  refine s_put (c := 98) dX12_steps_161 lX12_149 e98 ?_
  exact s_goto (tgt := 103) dX12_steps_164 (by decide) kk
theorem bX12_steps_167 {fr M1 M2 b1 b2 : Nat} {Q : RS → Nat → AH → Prop} {h : AH} {x1 : AV}   (kk : Wp mX12_steps (kR fr M1 M2) Q (b1, b2) 278 [zR 98, none] [] 137 (up h 98 22 1)) : Wp mX12_steps (kR fr M1 M2) Q (b1, b2) 167 [zR 98, x1] [] 137 h := by
  refine s_fgt (fgt_c (fgt_n _ fgt_0)) ?_
  refine s_aload_n (x := 98) dX12_steps_167 rfl ?_
  refine s_iconst dX12_steps_168 ?_
  refine s_put (c := 98) dX12_steps_169 lX12_166 e98 ?_
  exact s_goto (tgt := 278) dX12_steps_172 (by decide) kk
theorem bX12_steps_175 {fr M1 M2 b1 b2 : Nat} {Q : RS → Nat → AH → Prop} {h : AH} {l1 : Int} {R : Int → AH → Prop}   (hS : Sp mX12_isDigit true (fr - 1) 0 0 [zI l1] 137 h (rI R)) (hf : 1 ≤ fr := by omega) (kk : ∀ (x : Int) (h' : AH), R x h' → Wp mX12_steps (kR fr M1 M2) Q (b1, b2) 179 [zR 98, zI l1] [zI x] 137 h') : Wp mX12_steps (kR fr M1 M2) Q (b1, b2) 175 [zR 98, zI l1] [] 137 h := by
  refine s_iload_n (x := l1) dX12_steps_175 rfl ?_
  exact s_callS (as := [zI l1]) (st := []) dX12_steps_176 kX12_173 rfl rfl (Nat.le_of_ble_eq_true rfl) hS (show fr - 1 + 1 ≤ fr by omega) (Nat.zero_le _) (Nat.zero_le _) (fun v n' h' hP _ => by obtain ⟨x, e, rfl, hR⟩ := hP; cases e; exact kk x h' hR) (fun E n' h' _ z => (rI_nt _ _ _ z).elim)
theorem bX12_steps_179 {fr M1 M2 b1 b2 : Nat} {Q : RS → Nat → AH → Prop} {h : AH} {l1 s0 : Int}  (r1 : -2147483648 ≤ s0 ∧ s0 < 2147483648 := by omega) (kt : s0 = 0 → Wp mX12_steps (kR fr M1 M2) Q (b1, b2) 253 [zR 98, zI l1] [] 137 h) (kf : ¬ s0 = 0 → Wp mX12_steps (kR fr M1 M2) Q (b1, b2) 182 [zR 98, zI l1] [] 137 h) : Wp mX12_steps (kR fr M1 M2) Q (b1, b2) 179 [zR 98, zI l1] [zI s0] 137 h := by
  exact s_if_eq (tgt := 253) dX12_steps_179 (by decide) r1 kt kf
theorem bX12_steps_182 {fr M1 M2 b1 b2 : Nat} {Q : RS → Nat → AH → Prop} {h : AH} {x1 : AV} {R : Int → AH → Prop}   (hS : Sp mX12_byteAt true (fr - 1) 0 0 [zR 98, zI (h 98 21)] 137 h (rI R)) (hf : 1 ≤ fr := by omega) (kk : ∀ (x : Int) (h' : AH), R x h' → Wp mX12_steps (kR fr M1 M2) Q (b1, b2) 190 [zR 98, none] [zI x] 137 h') : Wp mX12_steps (kR fr M1 M2) Q (b1, b2) 182 [zR 98, x1] [] 137 h := by
  refine s_fgt (fgt_c (fgt_n _ fgt_0)) ?_
  refine s_aload_n (x := 98) dX12_steps_182 rfl ?_
  refine s_aload_n (x := 98) dX12_steps_183 rfl ?_
  refine s_get (c := 98) dX12_steps_184 lX12_149 e98 (by decide) ?_
  exact s_callV (as := [zI (h 98 21)]) (st := []) (o := 98) dX12_steps_187 kX12_152 rfl ⟨12, 87, TX12, e98, rfl, by decide⟩ rfl rfl (Nat.le_of_ble_eq_true rfl) hS (show fr - 1 + 1 ≤ fr by omega) (Nat.zero_le _) (Nat.zero_le _) (fun v n' h' hP _ => by obtain ⟨x, e, rfl, hR⟩ := hP; cases e; exact kk x h' hR) (fun E n' h' _ z => (rI_nt _ _ _ z).elim)
theorem bX12_steps_190 {fr M1 M2 b1 b2 : Nat} {Q : RS → Nat → AH → Prop} {h : AH} {s0 : Int} {x1 : AV} {R : Int → AH → Prop}   (hS : Sp mX12_isDigit true (fr - 1) 0 0 [zI s0] 137 h (rI R)) (hf : 1 ≤ fr := by omega) (kk : ∀ (x : Int) (h' : AH), R x h' → Wp mX12_steps (kR fr M1 M2) Q (b1, b2) 193 [zR 98, none] [zI x] 137 h') : Wp mX12_steps (kR fr M1 M2) Q (b1, b2) 190 [zR 98, x1] [zI s0] 137 h := by
  refine s_fgt (fgt_c (fgt_n _ fgt_0)) ?_
  exact s_callS (as := [zI s0]) (st := []) dX12_steps_190 kX12_173 rfl rfl (Nat.le_of_ble_eq_true rfl) hS (show fr - 1 + 1 ≤ fr by omega) (Nat.zero_le _) (Nat.zero_le _) (fun v n' h' hP _ => by obtain ⟨x, e, rfl, hR⟩ := hP; cases e; exact kk x h' hR) (fun E n' h' _ z => (rI_nt _ _ _ z).elim)
theorem bX12_steps_193 {fr M1 M2 b1 b2 : Nat} {Q : RS → Nat → AH → Prop} {h : AH} {s0 : Int} {x1 : AV}  (r1 : -2147483648 ≤ s0 ∧ s0 < 2147483648 := by omega) (kt : s0 = 0 → Wp mX12_steps (kR fr M1 M2) Q (b1, b2) 245 [zR 98, none] [] 137 h) (kf : ¬ s0 = 0 → Wp mX12_steps (kR fr M1 M2) Q (b1, b2) 196 [zR 98, none] [] 137 h) : Wp mX12_steps (kR fr M1 M2) Q (b1, b2) 193 [zR 98, x1] [zI s0] 137 h := by
  refine s_fgt (fgt_c (fgt_n _ fgt_0)) ?_
  exact s_if_eq (tgt := 245) dX12_steps_193 (by decide) r1 kt kf
theorem bX12_steps_196 {fr M1 M2 b1 b2 : Nat} {Q : RS → Nat → AH → Prop} {h : AH} {x1 : AV}  (r1 : -2147483648 ≤ (h 98 21) - (h 98 23) ∧ (h 98 21) - (h 98 23) < 2147483648 := by omega) (kt : 4 ≤ (h 98 21) - (h 98 23) → Wp mX12_steps (kR fr M1 M2) Q (b1, b2) 232 [zR 98, none] [] 137 h) (kf : (h 98 21) - (h 98 23) < 4 → Wp mX12_steps (kR fr M1 M2) Q (b1, b2) 209 [zR 98, none] [] 137 h) : Wp mX12_steps (kR fr M1 M2) Q (b1, b2) 196 [zR 98, x1] [] 137 h := by
  refine s_fgt (fgt_c (fgt_n _ fgt_0)) ?_
  refine s_aload_n (x := 98) dX12_steps_196 rfl ?_
  refine s_get (c := 98) dX12_steps_197 lX12_149 e98 (by decide) ?_
  refine s_aload_n (x := 98) dX12_steps_200 rfl ?_
  refine s_get (c := 98) dX12_steps_201 lX12_156 e98 (by decide) ?_
  refine s_isub dX12_steps_204 ?_
  refine s_iconst dX12_steps_205 ?_
  exact s_icmp_ge (tgt := 232) dX12_steps_206 (by decide) r1 ⟨by decide, by decide⟩ kt kf
theorem bX12_steps_209 {fr M1 M2 b1 b2 : Nat} {Q : RS → Nat → AH → Prop} {h : AH} {x1 : AV} {R : Int → AH → Prop}   (hS : Sp mX12_byteAt true (fr - 1) 0 0 [zR 98, zI (h 98 21)] 137 h (rI R)) (hf : 1 ≤ fr := by omega) (kk : ∀ (x : Int) (h' : AH), R x h' → Wp mX12_steps (kR fr M1 M2) Q (b1, b2) 225 [zR 98, none] [zI x, zI (10 * (h 98 25)), zR 98] 137 h') : Wp mX12_steps (kR fr M1 M2) Q (b1, b2) 209 [zR 98, x1] [] 137 h := by
  refine s_fgt (fgt_c (fgt_n _ fgt_0)) ?_
  refine s_aload_n (x := 98) dX12_steps_209 rfl ?_
  refine s_bipush dX12_steps_210 (by decide) ?_
  refine s_aload_n (x := 98) dX12_steps_212 rfl ?_
  refine s_get (c := 98) dX12_steps_213 lX12_163 e98 (by decide) ?_
  refine s_imul dX12_steps_216 ?_
  refine s_aload_n (x := 98) dX12_steps_217 rfl ?_
  refine s_aload_n (x := 98) dX12_steps_218 rfl ?_
  refine s_get (c := 98) dX12_steps_219 lX12_149 e98 (by decide) ?_
  exact s_callV (as := [zI (h 98 21)]) (st := [zI (10 * (h 98 25)), zR 98]) (o := 98) dX12_steps_222 kX12_152 rfl ⟨12, 87, TX12, e98, rfl, by decide⟩ rfl rfl (Nat.le_of_ble_eq_true rfl) hS (show fr - 1 + 1 ≤ fr by omega) (Nat.zero_le _) (Nat.zero_le _) (fun v n' h' hP _ => by obtain ⟨x, e, rfl, hR⟩ := hP; cases e; exact kk x h' hR) (fun E n' h' _ z => (rI_nt _ _ _ z).elim)
theorem bX12_steps_225 {fr M1 M2 b1 b2 : Nat} {Q : RS → Nat → AH → Prop} {h : AH} {s1 s0 : Int} {x1 : AV}   (kk : Wp mX12_steps (kR fr M1 M2) Q (b1, b2) 232 [zR 98, none] [] 137 (up h 98 25 ((s1 + s0) - 48))) : Wp mX12_steps (kR fr M1 M2) Q (b1, b2) 225 [zR 98, x1] [zI s0, zI s1, zR 98] 137 h := by
  refine s_fgt (fgt_c (fgt_n _ fgt_0)) ?_
  refine s_iadd dX12_steps_225 ?_
  refine s_bipush dX12_steps_226 (by decide) ?_
  refine s_isub dX12_steps_228 ?_
  refine s_put (c := 98) dX12_steps_229 lX12_163 e98 ?_
  exact kk
theorem bX12_steps_232 {fr M1 M2 b1 b2 : Nat} {Q : RS → Nat → AH → Prop} {h : AH} {x1 : AV}   (kk : Wp mX12_steps (kR fr M1 M2) Q (b1, b2) 182 [zR 98, none] [] 137 (up h 98 21 ((h 98 21) + 1))) : Wp mX12_steps (kR fr M1 M2) Q (b1, b2) 232 [zR 98, x1] [] 137 h := by
  refine s_fgt (fgt_c (fgt_n _ fgt_0)) ?_
  refine s_aload_n (x := 98) dX12_steps_232 rfl ?_
  refine s_dup dX12_steps_233 rfl ?_
  refine s_get (c := 98) dX12_steps_234 lX12_149 e98 (by decide) ?_
  refine s_iconst dX12_steps_237 ?_
  refine s_iadd dX12_steps_238 ?_
  refine s_put (c := 98) dX12_steps_239 lX12_149 e98 ?_
  exact s_goto (tgt := 182) dX12_steps_242 (by decide) kk
theorem bX12_steps_245 {fr M1 M2 b1 b2 : Nat} {Q : RS → Nat → AH → Prop} {h : AH} {x1 : AV}   (kk : Wp mX12_steps (kR fr M1 M2) Q (b1, b2) 278 [zR 98, none] [] 137 (up h 98 22 2)) : Wp mX12_steps (kR fr M1 M2) Q (b1, b2) 245 [zR 98, x1] [] 137 h := by
  refine s_fgt (fgt_c (fgt_n _ fgt_0)) ?_
  refine s_aload_n (x := 98) dX12_steps_245 rfl ?_
  refine s_iconst dX12_steps_246 ?_
  refine s_put (c := 98) dX12_steps_247 lX12_166 e98 ?_
  exact s_goto (tgt := 278) dX12_steps_250 (by decide) kk
theorem bX12_steps_253 {fr M1 M2 b1 b2 : Nat} {Q : RS → Nat → AH → Prop} {h : AH} {l1 : Int}  (r1 : -2147483648 ≤ l1 ∧ l1 < 2147483648 := by omega) (kt : ¬ l1 = 59 → Wp mX12_steps (kR fr M1 M2) Q (b1, b2) 274 [zR 98, zI l1] [zR 98] 137 (up h 98 21 ((h 98 21) + 1))) (kf : l1 = 59 → Wp mX12_steps (kR fr M1 M2) Q (b1, b2) 270 [zR 98, zI l1] [zR 98] 137 (up h 98 21 ((h 98 21) + 1))) : Wp mX12_steps (kR fr M1 M2) Q (b1, b2) 253 [zR 98, zI l1] [] 137 h := by
  refine s_aload_n (x := 98) dX12_steps_253 rfl ?_
  refine s_dup dX12_steps_254 rfl ?_
  refine s_get (c := 98) dX12_steps_255 lX12_149 e98 (by decide) ?_
  refine s_iconst dX12_steps_258 ?_
  refine s_iadd dX12_steps_259 ?_
  refine s_put (c := 98) dX12_steps_260 lX12_149 e98 ?_
  refine s_aload_n (x := 98) dX12_steps_263 rfl ?_
  refine s_iload_n (x := l1) dX12_steps_264 rfl ?_
  refine s_bipush dX12_steps_265 (by decide) ?_
  exact s_icmp_ne (tgt := 274) dX12_steps_267 (by decide) r1 ⟨by decide, by decide⟩ kt kf
theorem bX12_steps_270 {fr M1 M2 b1 b2 : Nat} {Q : RS → Nat → AH → Prop} {h : AH} {x1 : AV}   (kk : Wp mX12_steps (kR fr M1 M2) Q (b1, b2) 275 [zR 98, none] [zI 3, zR 98] 137 h) : Wp mX12_steps (kR fr M1 M2) Q (b1, b2) 270 [zR 98, x1] [zR 98] 137 h := by
  refine s_fgt (fgt_c (fgt_n _ fgt_0)) ?_
  refine s_iconst dX12_steps_270 ?_
  exact s_goto (tgt := 275) dX12_steps_271 (by decide) kk
theorem bX12_steps_274 {fr M1 M2 b1 b2 : Nat} {Q : RS → Nat → AH → Prop} {h : AH} {x1 : AV}   (kk : Wp mX12_steps (kR fr M1 M2) Q (b1, b2) 275 [zR 98, none] [zI 4, zR 98] 137 h) : Wp mX12_steps (kR fr M1 M2) Q (b1, b2) 274 [zR 98, x1] [zR 98] 137 h := by
  refine s_fgt (fgt_c (fgt_n _ fgt_0)) ?_
  refine s_iconst dX12_steps_274 ?_
  exact kk
theorem bX12_steps_275 {fr M1 M2 b1 b2 : Nat} {Q : RS → Nat → AH → Prop} {h : AH} {s0 : Int} {x1 : AV}   (kk : Wp mX12_steps (kR fr M1 M2) Q (b1, b2) 278 [zR 98, none] [] 137 (up h 98 22 s0)) : Wp mX12_steps (kR fr M1 M2) Q (b1, b2) 275 [zR 98, x1] [zI s0, zR 98] 137 h := by
  refine s_fgt (fgt_c (fgt_n _ fgt_0)) ?_
  refine s_put (c := 98) dX12_steps_275 lX12_166 e98 ?_
  exact kk
theorem bX12_steps_278 {fr M1 M2 b1 b2 : Nat} {Q : RS → Nat → AH → Prop} {h : AH} {x1 : AV}   (hq : Q (.inl none) 137 (up h 98 24 ((h 98 21) - (h 98 23)))) : Wp mX12_steps (kR fr M1 M2) Q (b1, b2) 278 [zR 98, x1] [] 137 h := by
  refine s_fgt (fgt_c (fgt_n _ fgt_0)) ?_
  refine s_aload_n (x := 98) dX12_steps_278 rfl ?_
  refine s_aload_n (x := 98) dX12_steps_279 rfl ?_
  refine s_get (c := 98) dX12_steps_280 lX12_149 e98 (by decide) ?_
  refine s_aload_n (x := 98) dX12_steps_283 rfl ?_
  refine s_get (c := 98) dX12_steps_284 lX12_156 e98 (by decide) ?_
  refine s_isub dX12_steps_287 ?_
  refine s_put (c := 98) dX12_steps_288 lX12_176 e98 ?_
  exact s_return dX12_steps_291 rfl hq (fun z => by cases z)
theorem dX12_spelled_0 : decode mX12_spelled.cd 0 = .ok (.iload_n 0, 1) := by decide +kernel
theorem dX12_spelled_1 : decode mX12_spelled.cd 1 = .ok (.bipush 96, 2) := by decide +kernel
theorem dX12_spelled_3 : decode mX12_spelled.cd 3 = .ok (.isub, 1) := by decide +kernel
theorem dX12_spelled_4 : decode mX12_spelled.cd 4 = .ok (.i2l, 1) := by decide +kernel
theorem dX12_spelled_5 : decode mX12_spelled.cd 5 = .ok (.lstore 8, 2) := by decide +kernel
theorem dX12_spelled_7 : decode mX12_spelled.cd 7 = .ok (.iload_n 1, 1) := by decide +kernel
theorem dX12_spelled_8 : decode mX12_spelled.cd 8 = .ok (.ifCond .eq 15, 3) := by decide +kernel
theorem dX12_spelled_11 : decode mX12_spelled.cd 11 = .ok (.lload 8, 2) := by decide +kernel
theorem dX12_spelled_13 : decode mX12_spelled.cd 13 = .ok (.iconst 5, 1) := by decide +kernel
theorem dX12_spelled_14 : decode mX12_spelled.cd 14 = .ok (.lshl, 1) := by decide +kernel
theorem dX12_spelled_15 : decode mX12_spelled.cd 15 = .ok (.iload_n 1, 1) := by decide +kernel
theorem dX12_spelled_16 : decode mX12_spelled.cd 16 = .ok (.bipush 96, 2) := by decide +kernel
theorem dX12_spelled_18 : decode mX12_spelled.cd 18 = .ok (.isub, 1) := by decide +kernel
theorem dX12_spelled_19 : decode mX12_spelled.cd 19 = .ok (.i2l, 1) := by decide +kernel
theorem dX12_spelled_20 : decode mX12_spelled.cd 20 = .ok (.lor, 1) := by decide +kernel
theorem dX12_spelled_21 : decode mX12_spelled.cd 21 = .ok (.lstore 8, 2) := by decide +kernel
theorem dX12_spelled_23 : decode mX12_spelled.cd 23 = .ok (.iload_n 2, 1) := by decide +kernel
theorem dX12_spelled_24 : decode mX12_spelled.cd 24 = .ok (.ifCond .eq 15, 3) := by decide +kernel
theorem dX12_spelled_27 : decode mX12_spelled.cd 27 = .ok (.lload 8, 2) := by decide +kernel
theorem dX12_spelled_29 : decode mX12_spelled.cd 29 = .ok (.iconst 5, 1) := by decide +kernel
theorem dX12_spelled_30 : decode mX12_spelled.cd 30 = .ok (.lshl, 1) := by decide +kernel
theorem dX12_spelled_31 : decode mX12_spelled.cd 31 = .ok (.iload_n 2, 1) := by decide +kernel
theorem dX12_spelled_32 : decode mX12_spelled.cd 32 = .ok (.bipush 96, 2) := by decide +kernel
theorem dX12_spelled_34 : decode mX12_spelled.cd 34 = .ok (.isub, 1) := by decide +kernel
theorem dX12_spelled_35 : decode mX12_spelled.cd 35 = .ok (.i2l, 1) := by decide +kernel
theorem dX12_spelled_36 : decode mX12_spelled.cd 36 = .ok (.lor, 1) := by decide +kernel
theorem dX12_spelled_37 : decode mX12_spelled.cd 37 = .ok (.lstore 8, 2) := by decide +kernel
theorem dX12_spelled_39 : decode mX12_spelled.cd 39 = .ok (.iload_n 3, 1) := by decide +kernel
theorem dX12_spelled_40 : decode mX12_spelled.cd 40 = .ok (.ifCond .eq 15, 3) := by decide +kernel
theorem dX12_spelled_43 : decode mX12_spelled.cd 43 = .ok (.lload 8, 2) := by decide +kernel
theorem dX12_spelled_45 : decode mX12_spelled.cd 45 = .ok (.iconst 5, 1) := by decide +kernel
theorem dX12_spelled_46 : decode mX12_spelled.cd 46 = .ok (.lshl, 1) := by decide +kernel
theorem dX12_spelled_47 : decode mX12_spelled.cd 47 = .ok (.iload_n 3, 1) := by decide +kernel
theorem dX12_spelled_48 : decode mX12_spelled.cd 48 = .ok (.bipush 96, 2) := by decide +kernel
theorem dX12_spelled_50 : decode mX12_spelled.cd 50 = .ok (.isub, 1) := by decide +kernel
theorem dX12_spelled_51 : decode mX12_spelled.cd 51 = .ok (.i2l, 1) := by decide +kernel
theorem dX12_spelled_52 : decode mX12_spelled.cd 52 = .ok (.lor, 1) := by decide +kernel
theorem dX12_spelled_53 : decode mX12_spelled.cd 53 = .ok (.lstore 8, 2) := by decide +kernel
theorem dX12_spelled_55 : decode mX12_spelled.cd 55 = .ok (.iload 4, 2) := by decide +kernel
theorem dX12_spelled_57 : decode mX12_spelled.cd 57 = .ok (.ifCond .eq 16, 3) := by decide +kernel
theorem dX12_spelled_60 : decode mX12_spelled.cd 60 = .ok (.lload 8, 2) := by decide +kernel
theorem dX12_spelled_62 : decode mX12_spelled.cd 62 = .ok (.iconst 5, 1) := by decide +kernel
theorem dX12_spelled_63 : decode mX12_spelled.cd 63 = .ok (.lshl, 1) := by decide +kernel
theorem dX12_spelled_64 : decode mX12_spelled.cd 64 = .ok (.iload 4, 2) := by decide +kernel
theorem dX12_spelled_66 : decode mX12_spelled.cd 66 = .ok (.bipush 96, 2) := by decide +kernel
theorem dX12_spelled_68 : decode mX12_spelled.cd 68 = .ok (.isub, 1) := by decide +kernel
theorem dX12_spelled_69 : decode mX12_spelled.cd 69 = .ok (.i2l, 1) := by decide +kernel
theorem dX12_spelled_70 : decode mX12_spelled.cd 70 = .ok (.lor, 1) := by decide +kernel
theorem dX12_spelled_71 : decode mX12_spelled.cd 71 = .ok (.lstore 8, 2) := by decide +kernel
theorem dX12_spelled_73 : decode mX12_spelled.cd 73 = .ok (.iload 5, 2) := by decide +kernel
theorem dX12_spelled_75 : decode mX12_spelled.cd 75 = .ok (.ifCond .eq 16, 3) := by decide +kernel
theorem dX12_spelled_78 : decode mX12_spelled.cd 78 = .ok (.lload 8, 2) := by decide +kernel
theorem dX12_spelled_80 : decode mX12_spelled.cd 80 = .ok (.iconst 5, 1) := by decide +kernel
theorem dX12_spelled_81 : decode mX12_spelled.cd 81 = .ok (.lshl, 1) := by decide +kernel
theorem dX12_spelled_82 : decode mX12_spelled.cd 82 = .ok (.iload 5, 2) := by decide +kernel
theorem dX12_spelled_84 : decode mX12_spelled.cd 84 = .ok (.bipush 96, 2) := by decide +kernel
theorem dX12_spelled_86 : decode mX12_spelled.cd 86 = .ok (.isub, 1) := by decide +kernel
theorem dX12_spelled_87 : decode mX12_spelled.cd 87 = .ok (.i2l, 1) := by decide +kernel
theorem dX12_spelled_88 : decode mX12_spelled.cd 88 = .ok (.lor, 1) := by decide +kernel
theorem dX12_spelled_89 : decode mX12_spelled.cd 89 = .ok (.lstore 8, 2) := by decide +kernel
theorem dX12_spelled_91 : decode mX12_spelled.cd 91 = .ok (.iload 6, 2) := by decide +kernel
theorem dX12_spelled_93 : decode mX12_spelled.cd 93 = .ok (.ifCond .eq 16, 3) := by decide +kernel
theorem dX12_spelled_96 : decode mX12_spelled.cd 96 = .ok (.lload 8, 2) := by decide +kernel
theorem dX12_spelled_98 : decode mX12_spelled.cd 98 = .ok (.iconst 5, 1) := by decide +kernel
theorem dX12_spelled_99 : decode mX12_spelled.cd 99 = .ok (.lshl, 1) := by decide +kernel
theorem dX12_spelled_100 : decode mX12_spelled.cd 100 = .ok (.iload 6, 2) := by decide +kernel
theorem dX12_spelled_102 : decode mX12_spelled.cd 102 = .ok (.bipush 96, 2) := by decide +kernel
theorem dX12_spelled_104 : decode mX12_spelled.cd 104 = .ok (.isub, 1) := by decide +kernel
theorem dX12_spelled_105 : decode mX12_spelled.cd 105 = .ok (.i2l, 1) := by decide +kernel
theorem dX12_spelled_106 : decode mX12_spelled.cd 106 = .ok (.lor, 1) := by decide +kernel
theorem dX12_spelled_107 : decode mX12_spelled.cd 107 = .ok (.lstore 8, 2) := by decide +kernel
theorem dX12_spelled_109 : decode mX12_spelled.cd 109 = .ok (.iload 7, 2) := by decide +kernel
theorem dX12_spelled_111 : decode mX12_spelled.cd 111 = .ok (.ifCond .eq 16, 3) := by decide +kernel
theorem dX12_spelled_114 : decode mX12_spelled.cd 114 = .ok (.lload 8, 2) := by decide +kernel
theorem dX12_spelled_116 : decode mX12_spelled.cd 116 = .ok (.iconst 5, 1) := by decide +kernel
theorem dX12_spelled_117 : decode mX12_spelled.cd 117 = .ok (.lshl, 1) := by decide +kernel
theorem dX12_spelled_118 : decode mX12_spelled.cd 118 = .ok (.iload 7, 2) := by decide +kernel
theorem dX12_spelled_120 : decode mX12_spelled.cd 120 = .ok (.bipush 96, 2) := by decide +kernel
theorem dX12_spelled_122 : decode mX12_spelled.cd 122 = .ok (.isub, 1) := by decide +kernel
theorem dX12_spelled_123 : decode mX12_spelled.cd 123 = .ok (.i2l, 1) := by decide +kernel
theorem dX12_spelled_124 : decode mX12_spelled.cd 124 = .ok (.lor, 1) := by decide +kernel
theorem dX12_spelled_125 : decode mX12_spelled.cd 125 = .ok (.lstore 8, 2) := by decide +kernel
theorem dX12_spelled_127 : decode mX12_spelled.cd 127 = .ok (.lload 8, 2) := by decide +kernel
theorem dX12_spelled_129 : decode mX12_spelled.cd 129 = .ok (.lreturn, 1) := by decide +kernel
theorem bX12_spelled_23 {fr M1 M2 b1 b2 : Nat} {Q : RS → Nat → AH → Prop} {h : AH} {l2 l3 l4 l5 l6 l7 l8 : Int} {x0 x1 x9 : AV}  (r1 : -2147483648 ≤ l2 ∧ l2 < 2147483648 := by omega) (kt : l2 = 0 → Wp mX12_spelled (kR fr M1 M2) Q (b1, b2) 39 [none, none, zI l2, zI l3, zI l4, zI l5, zI l6, zI l7, zL l8, none] [] 137 h) (kf : ¬ l2 = 0 → Wp mX12_spelled (kR fr M1 M2) Q (b1, b2) 27 [none, none, zI l2, zI l3, zI l4, zI l5, zI l6, zI l7, zL l8, none] [] 137 h) : Wp mX12_spelled (kR fr M1 M2) Q (b1, b2) 23 [x0, x1, zI l2, zI l3, zI l4, zI l5, zI l6, zI l7, zL l8, x9] [] 137 h := by
  refine s_fgt (fgt_n _ (fgt_n _ (fgt_c (fgt_c (fgt_c (fgt_c (fgt_c (fgt_c (fgt_c (fgt_n _ fgt_0)))))))))) ?_
  refine s_iload_n (x := l2) dX12_spelled_23 rfl ?_
  exact s_if_eq (tgt := 39) dX12_spelled_24 (by decide) r1 kt kf
theorem bX12_spelled_39 {fr M1 M2 b1 b2 : Nat} {Q : RS → Nat → AH → Prop} {h : AH} {l3 l4 l5 l6 l7 l8 : Int} {x0 x1 x2 x9 : AV}  (r1 : -2147483648 ≤ l3 ∧ l3 < 2147483648 := by omega) (kt : l3 = 0 → Wp mX12_spelled (kR fr M1 M2) Q (b1, b2) 55 [none, none, none, zI l3, zI l4, zI l5, zI l6, zI l7, zL l8, none] [] 137 h) (kf : ¬ l3 = 0 → Wp mX12_spelled (kR fr M1 M2) Q (b1, b2) 43 [none, none, none, zI l3, zI l4, zI l5, zI l6, zI l7, zL l8, none] [] 137 h) : Wp mX12_spelled (kR fr M1 M2) Q (b1, b2) 39 [x0, x1, x2, zI l3, zI l4, zI l5, zI l6, zI l7, zL l8, x9] [] 137 h := by
  refine s_fgt (fgt_n _ (fgt_n _ (fgt_n _ (fgt_c (fgt_c (fgt_c (fgt_c (fgt_c (fgt_c (fgt_n _ fgt_0)))))))))) ?_
  refine s_iload_n (x := l3) dX12_spelled_39 rfl ?_
  exact s_if_eq (tgt := 55) dX12_spelled_40 (by decide) r1 kt kf
theorem bX12_spelled_55 {fr M1 M2 b1 b2 : Nat} {Q : RS → Nat → AH → Prop} {h : AH} {l4 l5 l6 l7 l8 : Int} {x0 x1 x2 x3 x9 : AV}  (r1 : -2147483648 ≤ l4 ∧ l4 < 2147483648 := by omega) (kt : l4 = 0 → Wp mX12_spelled (kR fr M1 M2) Q (b1, b2) 73 [none, none, none, none, zI l4, zI l5, zI l6, zI l7, zL l8, none] [] 137 h) (kf : ¬ l4 = 0 → Wp mX12_spelled (kR fr M1 M2) Q (b1, b2) 60 [none, none, none, none, zI l4, zI l5, zI l6, zI l7, zL l8, none] [] 137 h) : Wp mX12_spelled (kR fr M1 M2) Q (b1, b2) 55 [x0, x1, x2, x3, zI l4, zI l5, zI l6, zI l7, zL l8, x9] [] 137 h := by
  refine s_fgt (fgt_n _ (fgt_n _ (fgt_n _ (fgt_n _ (fgt_c (fgt_c (fgt_c (fgt_c (fgt_c (fgt_n _ fgt_0)))))))))) ?_
  refine s_iload (x := l4) dX12_spelled_55 rfl ?_
  exact s_if_eq (tgt := 73) dX12_spelled_57 (by decide) r1 kt kf
theorem bX12_spelled_73 {fr M1 M2 b1 b2 : Nat} {Q : RS → Nat → AH → Prop} {h : AH} {l5 l6 l7 l8 : Int} {x0 x1 x2 x3 x4 x9 : AV}  (r1 : -2147483648 ≤ l5 ∧ l5 < 2147483648 := by omega) (kt : l5 = 0 → Wp mX12_spelled (kR fr M1 M2) Q (b1, b2) 91 [none, none, none, none, none, zI l5, zI l6, zI l7, zL l8, none] [] 137 h) (kf : ¬ l5 = 0 → Wp mX12_spelled (kR fr M1 M2) Q (b1, b2) 78 [none, none, none, none, none, zI l5, zI l6, zI l7, zL l8, none] [] 137 h) : Wp mX12_spelled (kR fr M1 M2) Q (b1, b2) 73 [x0, x1, x2, x3, x4, zI l5, zI l6, zI l7, zL l8, x9] [] 137 h := by
  refine s_fgt (fgt_n _ (fgt_n _ (fgt_n _ (fgt_n _ (fgt_n _ (fgt_c (fgt_c (fgt_c (fgt_c (fgt_n _ fgt_0)))))))))) ?_
  refine s_iload (x := l5) dX12_spelled_73 rfl ?_
  exact s_if_eq (tgt := 91) dX12_spelled_75 (by decide) r1 kt kf
theorem bX12_spelled_91 {fr M1 M2 b1 b2 : Nat} {Q : RS → Nat → AH → Prop} {h : AH} {l6 l7 l8 : Int} {x0 x1 x2 x3 x4 x5 x9 : AV}  (r1 : -2147483648 ≤ l6 ∧ l6 < 2147483648 := by omega) (kt : l6 = 0 → Wp mX12_spelled (kR fr M1 M2) Q (b1, b2) 109 [none, none, none, none, none, none, zI l6, zI l7, zL l8, none] [] 137 h) (kf : ¬ l6 = 0 → Wp mX12_spelled (kR fr M1 M2) Q (b1, b2) 96 [none, none, none, none, none, none, zI l6, zI l7, zL l8, none] [] 137 h) : Wp mX12_spelled (kR fr M1 M2) Q (b1, b2) 91 [x0, x1, x2, x3, x4, x5, zI l6, zI l7, zL l8, x9] [] 137 h := by
  refine s_fgt (fgt_n _ (fgt_n _ (fgt_n _ (fgt_n _ (fgt_n _ (fgt_n _ (fgt_c (fgt_c (fgt_c (fgt_n _ fgt_0)))))))))) ?_
  refine s_iload (x := l6) dX12_spelled_91 rfl ?_
  exact s_if_eq (tgt := 109) dX12_spelled_93 (by decide) r1 kt kf
theorem bX12_spelled_109 {fr M1 M2 b1 b2 : Nat} {Q : RS → Nat → AH → Prop} {h : AH} {l7 l8 : Int} {x0 x1 x2 x3 x4 x5 x6 x9 : AV}  (r1 : -2147483648 ≤ l7 ∧ l7 < 2147483648 := by omega) (kt : l7 = 0 → Wp mX12_spelled (kR fr M1 M2) Q (b1, b2) 127 [none, none, none, none, none, none, none, zI l7, zL l8, none] [] 137 h) (kf : ¬ l7 = 0 → Wp mX12_spelled (kR fr M1 M2) Q (b1, b2) 114 [none, none, none, none, none, none, none, zI l7, zL l8, none] [] 137 h) : Wp mX12_spelled (kR fr M1 M2) Q (b1, b2) 109 [x0, x1, x2, x3, x4, x5, x6, zI l7, zL l8, x9] [] 137 h := by
  refine s_fgt (fgt_n _ (fgt_n _ (fgt_n _ (fgt_n _ (fgt_n _ (fgt_n _ (fgt_n _ (fgt_c (fgt_c (fgt_n _ fgt_0)))))))))) ?_
  refine s_iload (x := l7) dX12_spelled_109 rfl ?_
  exact s_if_eq (tgt := 127) dX12_spelled_111 (by decide) r1 kt kf
theorem bX12_spelled_127 {fr M1 M2 b1 b2 : Nat} {Q : RS → Nat → AH → Prop} {h : AH} {l8 : Int} {x0 x1 x2 x3 x4 x5 x6 x7 x9 : AV}   (hq : Q (.inl (some (zL l8))) 137 h) : Wp mX12_spelled (kR fr M1 M2) Q (b1, b2) 127 [x0, x1, x2, x3, x4, x5, x6, x7, zL l8, x9] [] 137 h := by
  refine s_fgt (fgt_n _ (fgt_n _ (fgt_n _ (fgt_n _ (fgt_n _ (fgt_n _ (fgt_n _ (fgt_n _ (fgt_c (fgt_n _ fgt_0)))))))))) ?_
  refine s_lload (x := l8) dX12_spelled_127 rfl ?_
  exact s_lreturn dX12_spelled_129 rfl hq (fun z => by cases z)
theorem dX12_lettersOf_0 : decode mX12_lettersOf.cd 0 = .ok (.iload_n 0, 1) := by decide +kernel
theorem dX12_lettersOf_1 : decode mX12_lettersOf.cd 1 = .ok (.tableswitch 204 0 8 #[51, 68, 84, 104, 119, 135, 152, 168, 184], 51) := by decide +kernel
theorem dX12_lettersOf_52 : decode mX12_lettersOf.cd 52 = .ok (.bipush 115, 2) := by decide +kernel
theorem dX12_lettersOf_54 : decode mX12_lettersOf.cd 54 = .ok (.bipush 111, 2) := by decide +kernel
theorem dX12_lettersOf_56 : decode mX12_lettersOf.cd 56 = .ok (.bipush 117, 2) := by decide +kernel
theorem dX12_lettersOf_58 : decode mX12_lettersOf.cd 58 = .ok (.bipush 110, 2) := by decide +kernel
theorem dX12_lettersOf_60 : decode mX12_lettersOf.cd 60 = .ok (.bipush 100, 2) := by decide +kernel
theorem dX12_lettersOf_62 : decode mX12_lettersOf.cd 62 = .ok (.iconst 0, 1) := by decide +kernel
theorem dX12_lettersOf_63 : decode mX12_lettersOf.cd 63 = .ok (.iconst 0, 1) := by decide +kernel
theorem dX12_lettersOf_64 : decode mX12_lettersOf.cd 64 = .ok (.iconst 0, 1) := by decide +kernel
theorem dX12_lettersOf_65 : decode mX12_lettersOf.cd 65 = .ok (.invokestatic 179, 3) := by decide +kernel
theorem dX12_lettersOf_68 : decode mX12_lettersOf.cd 68 = .ok (.lreturn, 1) := by decide +kernel
theorem dX12_lettersOf_69 : decode mX12_lettersOf.cd 69 = .ok (.bipush 119, 2) := by decide +kernel
theorem dX12_lettersOf_71 : decode mX12_lettersOf.cd 71 = .ok (.bipush 97, 2) := by decide +kernel
theorem dX12_lettersOf_73 : decode mX12_lettersOf.cd 73 = .ok (.bipush 108, 2) := by decide +kernel
theorem dX12_lettersOf_75 : decode mX12_lettersOf.cd 75 = .ok (.bipush 108, 2) := by decide +kernel
theorem dX12_lettersOf_77 : decode mX12_lettersOf.cd 77 = .ok (.iconst 0, 1) := by decide +kernel
theorem dX12_lettersOf_78 : decode mX12_lettersOf.cd 78 = .ok (.iconst 0, 1) := by decide +kernel
theorem dX12_lettersOf_79 : decode mX12_lettersOf.cd 79 = .ok (.iconst 0, 1) := by decide +kernel
theorem dX12_lettersOf_80 : decode mX12_lettersOf.cd 80 = .ok (.iconst 0, 1) := by decide +kernel
theorem dX12_lettersOf_81 : decode mX12_lettersOf.cd 81 = .ok (.invokestatic 179, 3) := by decide +kernel
theorem dX12_lettersOf_84 : decode mX12_lettersOf.cd 84 = .ok (.lreturn, 1) := by decide +kernel
theorem dX12_lettersOf_85 : decode mX12_lettersOf.cd 85 = .ok (.bipush 115, 2) := by decide +kernel
theorem dX12_lettersOf_87 : decode mX12_lettersOf.cd 87 = .ok (.bipush 116, 2) := by decide +kernel
theorem dX12_lettersOf_89 : decode mX12_lettersOf.cd 89 = .ok (.bipush 114, 2) := by decide +kernel
theorem dX12_lettersOf_91 : decode mX12_lettersOf.cd 91 = .ok (.bipush 97, 2) := by decide +kernel
theorem dX12_lettersOf_93 : decode mX12_lettersOf.cd 93 = .ok (.bipush 105, 2) := by decide +kernel
theorem dX12_lettersOf_95 : decode mX12_lettersOf.cd 95 = .ok (.bipush 103, 2) := by decide +kernel
theorem dX12_lettersOf_97 : decode mX12_lettersOf.cd 97 = .ok (.bipush 104, 2) := by decide +kernel
theorem dX12_lettersOf_99 : decode mX12_lettersOf.cd 99 = .ok (.bipush 116, 2) := by decide +kernel
theorem dX12_lettersOf_101 : decode mX12_lettersOf.cd 101 = .ok (.invokestatic 179, 3) := by decide +kernel
theorem dX12_lettersOf_104 : decode mX12_lettersOf.cd 104 = .ok (.lreturn, 1) := by decide +kernel
theorem dX12_lettersOf_105 : decode mX12_lettersOf.cd 105 = .ok (.bipush 97, 2) := by decide +kernel
theorem dX12_lettersOf_107 : decode mX12_lettersOf.cd 107 = .ok (.bipush 105, 2) := by decide +kernel
theorem dX12_lettersOf_109 : decode mX12_lettersOf.cd 109 = .ok (.bipush 114, 2) := by decide +kernel
theorem dX12_lettersOf_111 : decode mX12_lettersOf.cd 111 = .ok (.iconst 0, 1) := by decide +kernel
theorem dX12_lettersOf_112 : decode mX12_lettersOf.cd 112 = .ok (.iconst 0, 1) := by decide +kernel
theorem dX12_lettersOf_113 : decode mX12_lettersOf.cd 113 = .ok (.iconst 0, 1) := by decide +kernel
theorem dX12_lettersOf_114 : decode mX12_lettersOf.cd 114 = .ok (.iconst 0, 1) := by decide +kernel
theorem dX12_lettersOf_115 : decode mX12_lettersOf.cd 115 = .ok (.iconst 0, 1) := by decide +kernel
theorem dX12_lettersOf_116 : decode mX12_lettersOf.cd 116 = .ok (.invokestatic 179, 3) := by decide +kernel
theorem dX12_lettersOf_119 : decode mX12_lettersOf.cd 119 = .ok (.lreturn, 1) := by decide +kernel
theorem dX12_lettersOf_120 : decode mX12_lettersOf.cd 120 = .ok (.bipush 109, 2) := by decide +kernel
theorem dX12_lettersOf_122 : decode mX12_lettersOf.cd 122 = .ok (.bipush 97, 2) := by decide +kernel
theorem dX12_lettersOf_124 : decode mX12_lettersOf.cd 124 = .ok (.bipush 115, 2) := by decide +kernel
theorem dX12_lettersOf_126 : decode mX12_lettersOf.cd 126 = .ok (.bipush 107, 2) := by decide +kernel
theorem dX12_lettersOf_128 : decode mX12_lettersOf.cd 128 = .ok (.iconst 0, 1) := by decide +kernel
theorem dX12_lettersOf_129 : decode mX12_lettersOf.cd 129 = .ok (.iconst 0, 1) := by decide +kernel
theorem dX12_lettersOf_130 : decode mX12_lettersOf.cd 130 = .ok (.iconst 0, 1) := by decide +kernel
theorem dX12_lettersOf_131 : decode mX12_lettersOf.cd 131 = .ok (.iconst 0, 1) := by decide +kernel
theorem dX12_lettersOf_132 : decode mX12_lettersOf.cd 132 = .ok (.invokestatic 179, 3) := by decide +kernel
theorem dX12_lettersOf_135 : decode mX12_lettersOf.cd 135 = .ok (.lreturn, 1) := by decide +kernel
theorem dX12_lettersOf_136 : decode mX12_lettersOf.cd 136 = .ok (.bipush 115, 2) := by decide +kernel
theorem dX12_lettersOf_138 : decode mX12_lettersOf.cd 138 = .ok (.bipush 119, 2) := by decide +kernel
theorem dX12_lettersOf_140 : decode mX12_lettersOf.cd 140 = .ok (.bipush 101, 2) := by decide +kernel
theorem dX12_lettersOf_142 : decode mX12_lettersOf.cd 142 = .ok (.bipush 101, 2) := by decide +kernel
theorem dX12_lettersOf_144 : decode mX12_lettersOf.cd 144 = .ok (.bipush 116, 2) := by decide +kernel
theorem dX12_lettersOf_146 : decode mX12_lettersOf.cd 146 = .ok (.iconst 0, 1) := by decide +kernel
theorem dX12_lettersOf_147 : decode mX12_lettersOf.cd 147 = .ok (.iconst 0, 1) := by decide +kernel
theorem dX12_lettersOf_148 : decode mX12_lettersOf.cd 148 = .ok (.iconst 0, 1) := by decide +kernel
theorem dX12_lettersOf_149 : decode mX12_lettersOf.cd 149 = .ok (.invokestatic 179, 3) := by decide +kernel
theorem dX12_lettersOf_152 : decode mX12_lettersOf.cd 152 = .ok (.lreturn, 1) := by decide +kernel
theorem dX12_lettersOf_153 : decode mX12_lettersOf.cd 153 = .ok (.bipush 119, 2) := by decide +kernel
theorem dX12_lettersOf_155 : decode mX12_lettersOf.cd 155 = .ok (.bipush 111, 2) := by decide +kernel
theorem dX12_lettersOf_157 : decode mX12_lettersOf.cd 157 = .ok (.bipush 114, 2) := by decide +kernel
theorem dX12_lettersOf_159 : decode mX12_lettersOf.cd 159 = .ok (.bipush 100, 2) := by decide +kernel
theorem dX12_lettersOf_161 : decode mX12_lettersOf.cd 161 = .ok (.iconst 0, 1) := by decide +kernel
theorem dX12_lettersOf_162 : decode mX12_lettersOf.cd 162 = .ok (.iconst 0, 1) := by decide +kernel
theorem dX12_lettersOf_163 : decode mX12_lettersOf.cd 163 = .ok (.iconst 0, 1) := by decide +kernel
theorem dX12_lettersOf_164 : decode mX12_lettersOf.cd 164 = .ok (.iconst 0, 1) := by decide +kernel
theorem dX12_lettersOf_165 : decode mX12_lettersOf.cd 165 = .ok (.invokestatic 179, 3) := by decide +kernel
theorem dX12_lettersOf_168 : decode mX12_lettersOf.cd 168 = .ok (.lreturn, 1) := by decide +kernel
theorem dX12_lettersOf_169 : decode mX12_lettersOf.cd 169 = .ok (.bipush 102, 2) := by decide +kernel
theorem dX12_lettersOf_171 : decode mX12_lettersOf.cd 171 = .ok (.bipush 111, 2) := by decide +kernel
theorem dX12_lettersOf_173 : decode mX12_lettersOf.cd 173 = .ok (.bipush 114, 2) := by decide +kernel
theorem dX12_lettersOf_175 : decode mX12_lettersOf.cd 175 = .ok (.bipush 109, 2) := by decide +kernel
theorem dX12_lettersOf_177 : decode mX12_lettersOf.cd 177 = .ok (.iconst 0, 1) := by decide +kernel
theorem dX12_lettersOf_178 : decode mX12_lettersOf.cd 178 = .ok (.iconst 0, 1) := by decide +kernel
theorem dX12_lettersOf_179 : decode mX12_lettersOf.cd 179 = .ok (.iconst 0, 1) := by decide +kernel
theorem dX12_lettersOf_180 : decode mX12_lettersOf.cd 180 = .ok (.iconst 0, 1) := by decide +kernel
theorem dX12_lettersOf_181 : decode mX12_lettersOf.cd 181 = .ok (.invokestatic 179, 3) := by decide +kernel
theorem dX12_lettersOf_184 : decode mX12_lettersOf.cd 184 = .ok (.lreturn, 1) := by decide +kernel
theorem dX12_lettersOf_185 : decode mX12_lettersOf.cd 185 = .ok (.bipush 115, 2) := by decide +kernel
theorem dX12_lettersOf_187 : decode mX12_lettersOf.cd 187 = .ok (.bipush 119, 2) := by decide +kernel
theorem dX12_lettersOf_189 : decode mX12_lettersOf.cd 189 = .ok (.bipush 97, 2) := by decide +kernel
theorem dX12_lettersOf_191 : decode mX12_lettersOf.cd 191 = .ok (.bipush 108, 2) := by decide +kernel
theorem dX12_lettersOf_193 : decode mX12_lettersOf.cd 193 = .ok (.bipush 108, 2) := by decide +kernel
theorem dX12_lettersOf_195 : decode mX12_lettersOf.cd 195 = .ok (.bipush 111, 2) := by decide +kernel
theorem dX12_lettersOf_197 : decode mX12_lettersOf.cd 197 = .ok (.bipush 119, 2) := by decide +kernel
theorem dX12_lettersOf_199 : decode mX12_lettersOf.cd 199 = .ok (.bipush 115, 2) := by decide +kernel
theorem dX12_lettersOf_201 : decode mX12_lettersOf.cd 201 = .ok (.invokestatic 179, 3) := by decide +kernel
theorem dX12_lettersOf_204 : decode mX12_lettersOf.cd 204 = .ok (.lreturn, 1) := by decide +kernel
theorem dX12_lettersOf_205 : decode mX12_lettersOf.cd 205 = .ok (.bipush 97, 2) := by decide +kernel
theorem dX12_lettersOf_207 : decode mX12_lettersOf.cd 207 = .ok (.bipush 103, 2) := by decide +kernel
theorem dX12_lettersOf_209 : decode mX12_lettersOf.cd 209 = .ok (.bipush 97, 2) := by decide +kernel
theorem dX12_lettersOf_211 : decode mX12_lettersOf.cd 211 = .ok (.bipush 105, 2) := by decide +kernel
theorem dX12_lettersOf_213 : decode mX12_lettersOf.cd 213 = .ok (.bipush 110, 2) := by decide +kernel
theorem dX12_lettersOf_215 : decode mX12_lettersOf.cd 215 = .ok (.iconst 0, 1) := by decide +kernel
theorem dX12_lettersOf_216 : decode mX12_lettersOf.cd 216 = .ok (.iconst 0, 1) := by decide +kernel
theorem dX12_lettersOf_217 : decode mX12_lettersOf.cd 217 = .ok (.iconst 0, 1) := by decide +kernel
theorem dX12_lettersOf_218 : decode mX12_lettersOf.cd 218 = .ok (.invokestatic 179, 3) := by decide +kernel
theorem dX12_lettersOf_221 : decode mX12_lettersOf.cd 221 = .ok (.lreturn, 1) := by decide +kernel
theorem bX12_lettersOf_0 {fr M1 M2 b1 b2 : Nat} {Q : RS → Nat → AH → Prop} {h : AH} {l0 : Int}  (r1 : -2147483648 ≤ l0 ∧ l0 < 2147483648 := by omega) (k0 : l0 = 0 → Wp mX12_lettersOf (kR fr M1 M2) Q (b1, b2) 52 [zI l0] [] 137 h) (k1 : l0 = 1 → Wp mX12_lettersOf (kR fr M1 M2) Q (b1, b2) 69 [zI l0] [] 137 h) (k2 : l0 = 2 → Wp mX12_lettersOf (kR fr M1 M2) Q (b1, b2) 85 [zI l0] [] 137 h) (k3 : l0 = 3 → Wp mX12_lettersOf (kR fr M1 M2) Q (b1, b2) 105 [zI l0] [] 137 h) (k4 : l0 = 4 → Wp mX12_lettersOf (kR fr M1 M2) Q (b1, b2) 120 [zI l0] [] 137 h) (k5 : l0 = 5 → Wp mX12_lettersOf (kR fr M1 M2) Q (b1, b2) 136 [zI l0] [] 137 h) (k6 : l0 = 6 → Wp mX12_lettersOf (kR fr M1 M2) Q (b1, b2) 153 [zI l0] [] 137 h) (k7 : l0 = 7 → Wp mX12_lettersOf (kR fr M1 M2) Q (b1, b2) 169 [zI l0] [] 137 h) (k8 : l0 = 8 → Wp mX12_lettersOf (kR fr M1 M2) Q (b1, b2) 185 [zI l0] [] 137 h) (kd : l0 < 0 ∨ 8 < l0 → Wp mX12_lettersOf (kR fr M1 M2) Q (b1, b2) 205 [zI l0] [] 137 h) : Wp mX12_lettersOf (kR fr M1 M2) Q (b1, b2) 0 [zI l0] [] 137 h := by
  refine s_iload_n (x := l0) dX12_lettersOf_0 rfl ?_
  rcases (show (l0 < 0 ∨ 8 < l0) ∨ l0 = 0 ∨ l0 = 1 ∨ l0 = 2 ∨ l0 = 3 ∨ l0 = 4 ∨ l0 = 5 ∨ l0 = 6 ∨ l0 = 7 ∨ l0 = 8 by omega) with z | z | z | z | z | z | z | z | z | z
  · exact s_tableOut (tgt := 205) dX12_lettersOf_1 r1 z (by decide) (kd z)
  · exact s_tableIn (tgt := 52) (off := 51) dX12_lettersOf_1 r1 (by omega) (by omega) (by rw [z]; rfl) (by decide) (k0 z)
  · exact s_tableIn (tgt := 69) (off := 68) dX12_lettersOf_1 r1 (by omega) (by omega) (by rw [z]; rfl) (by decide) (k1 z)
  · exact s_tableIn (tgt := 85) (off := 84) dX12_lettersOf_1 r1 (by omega) (by omega) (by rw [z]; rfl) (by decide) (k2 z)
  · exact s_tableIn (tgt := 105) (off := 104) dX12_lettersOf_1 r1 (by omega) (by omega) (by rw [z]; rfl) (by decide) (k3 z)
  · exact s_tableIn (tgt := 120) (off := 119) dX12_lettersOf_1 r1 (by omega) (by omega) (by rw [z]; rfl) (by decide) (k4 z)
  · exact s_tableIn (tgt := 136) (off := 135) dX12_lettersOf_1 r1 (by omega) (by omega) (by rw [z]; rfl) (by decide) (k5 z)
  · exact s_tableIn (tgt := 153) (off := 152) dX12_lettersOf_1 r1 (by omega) (by omega) (by rw [z]; rfl) (by decide) (k6 z)
  · exact s_tableIn (tgt := 169) (off := 168) dX12_lettersOf_1 r1 (by omega) (by omega) (by rw [z]; rfl) (by decide) (k7 z)
  · exact s_tableIn (tgt := 185) (off := 184) dX12_lettersOf_1 r1 (by omega) (by omega) (by rw [z]; rfl) (by decide) (k8 z)
theorem bX12_lettersOf_52 {fr M1 M2 b1 b2 : Nat} {Q : RS → Nat → AH → Prop} {h : AH} {x0 : AV} {R : Int → AH → Prop}   (hS : Sp mX12_spelled true (fr - 1) 0 0 [zI 115, zI 111, zI 117, zI 110, zI 100, zI 0, zI 0, zI 0] 137 h (rL R)) (hf : 1 ≤ fr := by omega) (kk : ∀ (x : Int) (h' : AH), R x h' → Wp mX12_lettersOf (kR fr M1 M2) Q (b1, b2) 68 [none] [zL x] 137 h') : Wp mX12_lettersOf (kR fr M1 M2) Q (b1, b2) 52 [x0] [] 137 h := by
  refine s_fgt (fgt_n _ fgt_0) ?_
  refine s_bipush dX12_lettersOf_52 (by decide) ?_
  refine s_bipush dX12_lettersOf_54 (by decide) ?_
  refine s_bipush dX12_lettersOf_56 (by decide) ?_
  refine s_bipush dX12_lettersOf_58 (by decide) ?_
  refine s_bipush dX12_lettersOf_60 (by decide) ?_
  refine s_iconst dX12_lettersOf_62 ?_
  refine s_iconst dX12_lettersOf_63 ?_
  refine s_iconst dX12_lettersOf_64 ?_
  exact s_callS (as := [zI 115, zI 111, zI 117, zI 110, zI 100, zI 0, zI 0, zI 0]) (st := []) dX12_lettersOf_65 kX12_179 rfl rfl (Nat.le_of_ble_eq_true rfl) hS (show fr - 1 + 1 ≤ fr by omega) (Nat.zero_le _) (Nat.zero_le _) (fun v n' h' hP _ => by obtain ⟨x, e, rfl, hR⟩ := hP; cases e; exact kk x h' hR) (fun E n' h' _ z => (rL_nt _ _ _ z).elim)
theorem bX12_lettersOf_68 {fr M1 M2 b1 b2 : Nat} {Q : RS → Nat → AH → Prop} {h : AH} {s0 : Int} {x0 : AV}   (hq : Q (.inl (some (zL s0))) 137 h) : Wp mX12_lettersOf (kR fr M1 M2) Q (b1, b2) 68 [x0] [zL s0] 137 h := by
  refine s_fgt (fgt_n _ fgt_0) ?_
  exact s_lreturn dX12_lettersOf_68 rfl hq (fun z => by cases z)
theorem bX12_lettersOf_69 {fr M1 M2 b1 b2 : Nat} {Q : RS → Nat → AH → Prop} {h : AH} {x0 : AV} {R : Int → AH → Prop}   (hS : Sp mX12_spelled true (fr - 1) 0 0 [zI 119, zI 97, zI 108, zI 108, zI 0, zI 0, zI 0, zI 0] 137 h (rL R)) (hf : 1 ≤ fr := by omega) (kk : ∀ (x : Int) (h' : AH), R x h' → Wp mX12_lettersOf (kR fr M1 M2) Q (b1, b2) 84 [none] [zL x] 137 h') : Wp mX12_lettersOf (kR fr M1 M2) Q (b1, b2) 69 [x0] [] 137 h := by
  refine s_fgt (fgt_n _ fgt_0) ?_
  refine s_bipush dX12_lettersOf_69 (by decide) ?_
  refine s_bipush dX12_lettersOf_71 (by decide) ?_
  refine s_bipush dX12_lettersOf_73 (by decide) ?_
  refine s_bipush dX12_lettersOf_75 (by decide) ?_
  refine s_iconst dX12_lettersOf_77 ?_
  refine s_iconst dX12_lettersOf_78 ?_
  refine s_iconst dX12_lettersOf_79 ?_
  refine s_iconst dX12_lettersOf_80 ?_
  exact s_callS (as := [zI 119, zI 97, zI 108, zI 108, zI 0, zI 0, zI 0, zI 0]) (st := []) dX12_lettersOf_81 kX12_179 rfl rfl (Nat.le_of_ble_eq_true rfl) hS (show fr - 1 + 1 ≤ fr by omega) (Nat.zero_le _) (Nat.zero_le _) (fun v n' h' hP _ => by obtain ⟨x, e, rfl, hR⟩ := hP; cases e; exact kk x h' hR) (fun E n' h' _ z => (rL_nt _ _ _ z).elim)
theorem bX12_lettersOf_84 {fr M1 M2 b1 b2 : Nat} {Q : RS → Nat → AH → Prop} {h : AH} {s0 : Int} {x0 : AV}   (hq : Q (.inl (some (zL s0))) 137 h) : Wp mX12_lettersOf (kR fr M1 M2) Q (b1, b2) 84 [x0] [zL s0] 137 h := by
  refine s_fgt (fgt_n _ fgt_0) ?_
  exact s_lreturn dX12_lettersOf_84 rfl hq (fun z => by cases z)
theorem bX12_lettersOf_85 {fr M1 M2 b1 b2 : Nat} {Q : RS → Nat → AH → Prop} {h : AH} {x0 : AV} {R : Int → AH → Prop}   (hS : Sp mX12_spelled true (fr - 1) 0 0 [zI 115, zI 116, zI 114, zI 97, zI 105, zI 103, zI 104, zI 116] 137 h (rL R)) (hf : 1 ≤ fr := by omega) (kk : ∀ (x : Int) (h' : AH), R x h' → Wp mX12_lettersOf (kR fr M1 M2) Q (b1, b2) 104 [none] [zL x] 137 h') : Wp mX12_lettersOf (kR fr M1 M2) Q (b1, b2) 85 [x0] [] 137 h := by
  refine s_fgt (fgt_n _ fgt_0) ?_
  refine s_bipush dX12_lettersOf_85 (by decide) ?_
  refine s_bipush dX12_lettersOf_87 (by decide) ?_
  refine s_bipush dX12_lettersOf_89 (by decide) ?_
  refine s_bipush dX12_lettersOf_91 (by decide) ?_
  refine s_bipush dX12_lettersOf_93 (by decide) ?_
  refine s_bipush dX12_lettersOf_95 (by decide) ?_
  refine s_bipush dX12_lettersOf_97 (by decide) ?_
  refine s_bipush dX12_lettersOf_99 (by decide) ?_
  exact s_callS (as := [zI 115, zI 116, zI 114, zI 97, zI 105, zI 103, zI 104, zI 116]) (st := []) dX12_lettersOf_101 kX12_179 rfl rfl (Nat.le_of_ble_eq_true rfl) hS (show fr - 1 + 1 ≤ fr by omega) (Nat.zero_le _) (Nat.zero_le _) (fun v n' h' hP _ => by obtain ⟨x, e, rfl, hR⟩ := hP; cases e; exact kk x h' hR) (fun E n' h' _ z => (rL_nt _ _ _ z).elim)
theorem bX12_lettersOf_104 {fr M1 M2 b1 b2 : Nat} {Q : RS → Nat → AH → Prop} {h : AH} {s0 : Int} {x0 : AV}   (hq : Q (.inl (some (zL s0))) 137 h) : Wp mX12_lettersOf (kR fr M1 M2) Q (b1, b2) 104 [x0] [zL s0] 137 h := by
  refine s_fgt (fgt_n _ fgt_0) ?_
  exact s_lreturn dX12_lettersOf_104 rfl hq (fun z => by cases z)
theorem bX12_lettersOf_105 {fr M1 M2 b1 b2 : Nat} {Q : RS → Nat → AH → Prop} {h : AH} {x0 : AV} {R : Int → AH → Prop}   (hS : Sp mX12_spelled true (fr - 1) 0 0 [zI 97, zI 105, zI 114, zI 0, zI 0, zI 0, zI 0, zI 0] 137 h (rL R)) (hf : 1 ≤ fr := by omega) (kk : ∀ (x : Int) (h' : AH), R x h' → Wp mX12_lettersOf (kR fr M1 M2) Q (b1, b2) 119 [none] [zL x] 137 h') : Wp mX12_lettersOf (kR fr M1 M2) Q (b1, b2) 105 [x0] [] 137 h := by
  refine s_fgt (fgt_n _ fgt_0) ?_
  refine s_bipush dX12_lettersOf_105 (by decide) ?_
  refine s_bipush dX12_lettersOf_107 (by decide) ?_
  refine s_bipush dX12_lettersOf_109 (by decide) ?_
  refine s_iconst dX12_lettersOf_111 ?_
  refine s_iconst dX12_lettersOf_112 ?_
  refine s_iconst dX12_lettersOf_113 ?_
  refine s_iconst dX12_lettersOf_114 ?_
  refine s_iconst dX12_lettersOf_115 ?_
  exact s_callS (as := [zI 97, zI 105, zI 114, zI 0, zI 0, zI 0, zI 0, zI 0]) (st := []) dX12_lettersOf_116 kX12_179 rfl rfl (Nat.le_of_ble_eq_true rfl) hS (show fr - 1 + 1 ≤ fr by omega) (Nat.zero_le _) (Nat.zero_le _) (fun v n' h' hP _ => by obtain ⟨x, e, rfl, hR⟩ := hP; cases e; exact kk x h' hR) (fun E n' h' _ z => (rL_nt _ _ _ z).elim)
theorem bX12_lettersOf_119 {fr M1 M2 b1 b2 : Nat} {Q : RS → Nat → AH → Prop} {h : AH} {s0 : Int} {x0 : AV}   (hq : Q (.inl (some (zL s0))) 137 h) : Wp mX12_lettersOf (kR fr M1 M2) Q (b1, b2) 119 [x0] [zL s0] 137 h := by
  refine s_fgt (fgt_n _ fgt_0) ?_
  exact s_lreturn dX12_lettersOf_119 rfl hq (fun z => by cases z)
theorem bX12_lettersOf_120 {fr M1 M2 b1 b2 : Nat} {Q : RS → Nat → AH → Prop} {h : AH} {x0 : AV} {R : Int → AH → Prop}   (hS : Sp mX12_spelled true (fr - 1) 0 0 [zI 109, zI 97, zI 115, zI 107, zI 0, zI 0, zI 0, zI 0] 137 h (rL R)) (hf : 1 ≤ fr := by omega) (kk : ∀ (x : Int) (h' : AH), R x h' → Wp mX12_lettersOf (kR fr M1 M2) Q (b1, b2) 135 [none] [zL x] 137 h') : Wp mX12_lettersOf (kR fr M1 M2) Q (b1, b2) 120 [x0] [] 137 h := by
  refine s_fgt (fgt_n _ fgt_0) ?_
  refine s_bipush dX12_lettersOf_120 (by decide) ?_
  refine s_bipush dX12_lettersOf_122 (by decide) ?_
  refine s_bipush dX12_lettersOf_124 (by decide) ?_
  refine s_bipush dX12_lettersOf_126 (by decide) ?_
  refine s_iconst dX12_lettersOf_128 ?_
  refine s_iconst dX12_lettersOf_129 ?_
  refine s_iconst dX12_lettersOf_130 ?_
  refine s_iconst dX12_lettersOf_131 ?_
  exact s_callS (as := [zI 109, zI 97, zI 115, zI 107, zI 0, zI 0, zI 0, zI 0]) (st := []) dX12_lettersOf_132 kX12_179 rfl rfl (Nat.le_of_ble_eq_true rfl) hS (show fr - 1 + 1 ≤ fr by omega) (Nat.zero_le _) (Nat.zero_le _) (fun v n' h' hP _ => by obtain ⟨x, e, rfl, hR⟩ := hP; cases e; exact kk x h' hR) (fun E n' h' _ z => (rL_nt _ _ _ z).elim)
theorem bX12_lettersOf_135 {fr M1 M2 b1 b2 : Nat} {Q : RS → Nat → AH → Prop} {h : AH} {s0 : Int} {x0 : AV}   (hq : Q (.inl (some (zL s0))) 137 h) : Wp mX12_lettersOf (kR fr M1 M2) Q (b1, b2) 135 [x0] [zL s0] 137 h := by
  refine s_fgt (fgt_n _ fgt_0) ?_
  exact s_lreturn dX12_lettersOf_135 rfl hq (fun z => by cases z)
theorem bX12_lettersOf_136 {fr M1 M2 b1 b2 : Nat} {Q : RS → Nat → AH → Prop} {h : AH} {x0 : AV} {R : Int → AH → Prop}   (hS : Sp mX12_spelled true (fr - 1) 0 0 [zI 115, zI 119, zI 101, zI 101, zI 116, zI 0, zI 0, zI 0] 137 h (rL R)) (hf : 1 ≤ fr := by omega) (kk : ∀ (x : Int) (h' : AH), R x h' → Wp mX12_lettersOf (kR fr M1 M2) Q (b1, b2) 152 [none] [zL x] 137 h') : Wp mX12_lettersOf (kR fr M1 M2) Q (b1, b2) 136 [x0] [] 137 h := by
  refine s_fgt (fgt_n _ fgt_0) ?_
  refine s_bipush dX12_lettersOf_136 (by decide) ?_
  refine s_bipush dX12_lettersOf_138 (by decide) ?_
  refine s_bipush dX12_lettersOf_140 (by decide) ?_
  refine s_bipush dX12_lettersOf_142 (by decide) ?_
  refine s_bipush dX12_lettersOf_144 (by decide) ?_
  refine s_iconst dX12_lettersOf_146 ?_
  refine s_iconst dX12_lettersOf_147 ?_
  refine s_iconst dX12_lettersOf_148 ?_
  exact s_callS (as := [zI 115, zI 119, zI 101, zI 101, zI 116, zI 0, zI 0, zI 0]) (st := []) dX12_lettersOf_149 kX12_179 rfl rfl (Nat.le_of_ble_eq_true rfl) hS (show fr - 1 + 1 ≤ fr by omega) (Nat.zero_le _) (Nat.zero_le _) (fun v n' h' hP _ => by obtain ⟨x, e, rfl, hR⟩ := hP; cases e; exact kk x h' hR) (fun E n' h' _ z => (rL_nt _ _ _ z).elim)
theorem bX12_lettersOf_152 {fr M1 M2 b1 b2 : Nat} {Q : RS → Nat → AH → Prop} {h : AH} {s0 : Int} {x0 : AV}   (hq : Q (.inl (some (zL s0))) 137 h) : Wp mX12_lettersOf (kR fr M1 M2) Q (b1, b2) 152 [x0] [zL s0] 137 h := by
  refine s_fgt (fgt_n _ fgt_0) ?_
  exact s_lreturn dX12_lettersOf_152 rfl hq (fun z => by cases z)
theorem bX12_lettersOf_153 {fr M1 M2 b1 b2 : Nat} {Q : RS → Nat → AH → Prop} {h : AH} {x0 : AV} {R : Int → AH → Prop}   (hS : Sp mX12_spelled true (fr - 1) 0 0 [zI 119, zI 111, zI 114, zI 100, zI 0, zI 0, zI 0, zI 0] 137 h (rL R)) (hf : 1 ≤ fr := by omega) (kk : ∀ (x : Int) (h' : AH), R x h' → Wp mX12_lettersOf (kR fr M1 M2) Q (b1, b2) 168 [none] [zL x] 137 h') : Wp mX12_lettersOf (kR fr M1 M2) Q (b1, b2) 153 [x0] [] 137 h := by
  refine s_fgt (fgt_n _ fgt_0) ?_
  refine s_bipush dX12_lettersOf_153 (by decide) ?_
  refine s_bipush dX12_lettersOf_155 (by decide) ?_
  refine s_bipush dX12_lettersOf_157 (by decide) ?_
  refine s_bipush dX12_lettersOf_159 (by decide) ?_
  refine s_iconst dX12_lettersOf_161 ?_
  refine s_iconst dX12_lettersOf_162 ?_
  refine s_iconst dX12_lettersOf_163 ?_
  refine s_iconst dX12_lettersOf_164 ?_
  exact s_callS (as := [zI 119, zI 111, zI 114, zI 100, zI 0, zI 0, zI 0, zI 0]) (st := []) dX12_lettersOf_165 kX12_179 rfl rfl (Nat.le_of_ble_eq_true rfl) hS (show fr - 1 + 1 ≤ fr by omega) (Nat.zero_le _) (Nat.zero_le _) (fun v n' h' hP _ => by obtain ⟨x, e, rfl, hR⟩ := hP; cases e; exact kk x h' hR) (fun E n' h' _ z => (rL_nt _ _ _ z).elim)
theorem bX12_lettersOf_168 {fr M1 M2 b1 b2 : Nat} {Q : RS → Nat → AH → Prop} {h : AH} {s0 : Int} {x0 : AV}   (hq : Q (.inl (some (zL s0))) 137 h) : Wp mX12_lettersOf (kR fr M1 M2) Q (b1, b2) 168 [x0] [zL s0] 137 h := by
  refine s_fgt (fgt_n _ fgt_0) ?_
  exact s_lreturn dX12_lettersOf_168 rfl hq (fun z => by cases z)
theorem bX12_lettersOf_169 {fr M1 M2 b1 b2 : Nat} {Q : RS → Nat → AH → Prop} {h : AH} {x0 : AV} {R : Int → AH → Prop}   (hS : Sp mX12_spelled true (fr - 1) 0 0 [zI 102, zI 111, zI 114, zI 109, zI 0, zI 0, zI 0, zI 0] 137 h (rL R)) (hf : 1 ≤ fr := by omega) (kk : ∀ (x : Int) (h' : AH), R x h' → Wp mX12_lettersOf (kR fr M1 M2) Q (b1, b2) 184 [none] [zL x] 137 h') : Wp mX12_lettersOf (kR fr M1 M2) Q (b1, b2) 169 [x0] [] 137 h := by
  refine s_fgt (fgt_n _ fgt_0) ?_
  refine s_bipush dX12_lettersOf_169 (by decide) ?_
  refine s_bipush dX12_lettersOf_171 (by decide) ?_
  refine s_bipush dX12_lettersOf_173 (by decide) ?_
  refine s_bipush dX12_lettersOf_175 (by decide) ?_
  refine s_iconst dX12_lettersOf_177 ?_
  refine s_iconst dX12_lettersOf_178 ?_
  refine s_iconst dX12_lettersOf_179 ?_
  refine s_iconst dX12_lettersOf_180 ?_
  exact s_callS (as := [zI 102, zI 111, zI 114, zI 109, zI 0, zI 0, zI 0, zI 0]) (st := []) dX12_lettersOf_181 kX12_179 rfl rfl (Nat.le_of_ble_eq_true rfl) hS (show fr - 1 + 1 ≤ fr by omega) (Nat.zero_le _) (Nat.zero_le _) (fun v n' h' hP _ => by obtain ⟨x, e, rfl, hR⟩ := hP; cases e; exact kk x h' hR) (fun E n' h' _ z => (rL_nt _ _ _ z).elim)
theorem bX12_lettersOf_184 {fr M1 M2 b1 b2 : Nat} {Q : RS → Nat → AH → Prop} {h : AH} {s0 : Int} {x0 : AV}   (hq : Q (.inl (some (zL s0))) 137 h) : Wp mX12_lettersOf (kR fr M1 M2) Q (b1, b2) 184 [x0] [zL s0] 137 h := by
  refine s_fgt (fgt_n _ fgt_0) ?_
  exact s_lreturn dX12_lettersOf_184 rfl hq (fun z => by cases z)
theorem bX12_lettersOf_185 {fr M1 M2 b1 b2 : Nat} {Q : RS → Nat → AH → Prop} {h : AH} {x0 : AV} {R : Int → AH → Prop}   (hS : Sp mX12_spelled true (fr - 1) 0 0 [zI 115, zI 119, zI 97, zI 108, zI 108, zI 111, zI 119, zI 115] 137 h (rL R)) (hf : 1 ≤ fr := by omega) (kk : ∀ (x : Int) (h' : AH), R x h' → Wp mX12_lettersOf (kR fr M1 M2) Q (b1, b2) 204 [none] [zL x] 137 h') : Wp mX12_lettersOf (kR fr M1 M2) Q (b1, b2) 185 [x0] [] 137 h := by
  refine s_fgt (fgt_n _ fgt_0) ?_
  refine s_bipush dX12_lettersOf_185 (by decide) ?_
  refine s_bipush dX12_lettersOf_187 (by decide) ?_
  refine s_bipush dX12_lettersOf_189 (by decide) ?_
  refine s_bipush dX12_lettersOf_191 (by decide) ?_
  refine s_bipush dX12_lettersOf_193 (by decide) ?_
  refine s_bipush dX12_lettersOf_195 (by decide) ?_
  refine s_bipush dX12_lettersOf_197 (by decide) ?_
  refine s_bipush dX12_lettersOf_199 (by decide) ?_
  exact s_callS (as := [zI 115, zI 119, zI 97, zI 108, zI 108, zI 111, zI 119, zI 115]) (st := []) dX12_lettersOf_201 kX12_179 rfl rfl (Nat.le_of_ble_eq_true rfl) hS (show fr - 1 + 1 ≤ fr by omega) (Nat.zero_le _) (Nat.zero_le _) (fun v n' h' hP _ => by obtain ⟨x, e, rfl, hR⟩ := hP; cases e; exact kk x h' hR) (fun E n' h' _ z => (rL_nt _ _ _ z).elim)
theorem bX12_lettersOf_204 {fr M1 M2 b1 b2 : Nat} {Q : RS → Nat → AH → Prop} {h : AH} {s0 : Int} {x0 : AV}   (hq : Q (.inl (some (zL s0))) 137 h) : Wp mX12_lettersOf (kR fr M1 M2) Q (b1, b2) 204 [x0] [zL s0] 137 h := by
  refine s_fgt (fgt_n _ fgt_0) ?_
  exact s_lreturn dX12_lettersOf_204 rfl hq (fun z => by cases z)
theorem bX12_lettersOf_205 {fr M1 M2 b1 b2 : Nat} {Q : RS → Nat → AH → Prop} {h : AH} {x0 : AV} {R : Int → AH → Prop}   (hS : Sp mX12_spelled true (fr - 1) 0 0 [zI 97, zI 103, zI 97, zI 105, zI 110, zI 0, zI 0, zI 0] 137 h (rL R)) (hf : 1 ≤ fr := by omega) (kk : ∀ (x : Int) (h' : AH), R x h' → Wp mX12_lettersOf (kR fr M1 M2) Q (b1, b2) 221 [none] [zL x] 137 h') : Wp mX12_lettersOf (kR fr M1 M2) Q (b1, b2) 205 [x0] [] 137 h := by
  refine s_fgt (fgt_n _ fgt_0) ?_
  refine s_bipush dX12_lettersOf_205 (by decide) ?_
  refine s_bipush dX12_lettersOf_207 (by decide) ?_
  refine s_bipush dX12_lettersOf_209 (by decide) ?_
  refine s_bipush dX12_lettersOf_211 (by decide) ?_
  refine s_bipush dX12_lettersOf_213 (by decide) ?_
  refine s_iconst dX12_lettersOf_215 ?_
  refine s_iconst dX12_lettersOf_216 ?_
  refine s_iconst dX12_lettersOf_217 ?_
  exact s_callS (as := [zI 97, zI 103, zI 97, zI 105, zI 110, zI 0, zI 0, zI 0]) (st := []) dX12_lettersOf_218 kX12_179 rfl rfl (Nat.le_of_ble_eq_true rfl) hS (show fr - 1 + 1 ≤ fr by omega) (Nat.zero_le _) (Nat.zero_le _) (fun v n' h' hP _ => by obtain ⟨x, e, rfl, hR⟩ := hP; cases e; exact kk x h' hR) (fun E n' h' _ z => (rL_nt _ _ _ z).elim)
theorem bX12_lettersOf_221 {fr M1 M2 b1 b2 : Nat} {Q : RS → Nat → AH → Prop} {h : AH} {s0 : Int} {x0 : AV}   (hq : Q (.inl (some (zL s0))) 137 h) : Wp mX12_lettersOf (kR fr M1 M2) Q (b1, b2) 221 [x0] [zL s0] 137 h := by
  refine s_fgt (fgt_n _ fgt_0) ?_
  exact s_lreturn dX12_lettersOf_221 rfl hq (fun z => by cases z)
theorem dX12_is_0 : decode mX12_is.cd 0 = .ok (.aload_n 0, 1) := by decide +kernel
theorem dX12_is_1 : decode mX12_is.cd 1 = .ok (.getfield 166, 3) := by decide +kernel
theorem dX12_is_4 : decode mX12_is.cd 4 = .ok (.iconst 1, 1) := by decide +kernel
theorem dX12_is_5 : decode mX12_is.cd 5 = .ok (.if_icmp .ne 28, 3) := by decide +kernel
theorem dX12_is_8 : decode mX12_is.cd 8 = .ok (.aload_n 0, 1) := by decide +kernel
theorem dX12_is_9 : decode mX12_is.cd 9 = .ok (.getfield 176, 3) := by decide +kernel
theorem dX12_is_12 : decode mX12_is.cd 12 = .ok (.bipush 9, 2) := by decide +kernel
theorem dX12_is_14 : decode mX12_is.cd 14 = .ok (.if_icmp .ge 19, 3) := by decide +kernel
theorem dX12_is_17 : decode mX12_is.cd 17 = .ok (.aload_n 0, 1) := by decide +kernel
theorem dX12_is_18 : decode mX12_is.cd 18 = .ok (.getfield 159, 3) := by decide +kernel
theorem dX12_is_21 : decode mX12_is.cd 21 = .ok (.iload_n 1, 1) := by decide +kernel
theorem dX12_is_22 : decode mX12_is.cd 22 = .ok (.invokestatic 183, 3) := by decide +kernel
theorem dX12_is_25 : decode mX12_is.cd 25 = .ok (.lcmp, 1) := by decide +kernel
theorem dX12_is_26 : decode mX12_is.cd 26 = .ok (.ifCond .ne 7, 3) := by decide +kernel
theorem dX12_is_29 : decode mX12_is.cd 29 = .ok (.iconst 1, 1) := by decide +kernel
theorem dX12_is_30 : decode mX12_is.cd 30 = .ok (.goto 4, 3) := by decide +kernel
theorem dX12_is_33 : decode mX12_is.cd 33 = .ok (.iconst 0, 1) := by decide +kernel
theorem dX12_is_34 : decode mX12_is.cd 34 = .ok (.ireturn, 1) := by decide +kernel
theorem bX12_is_0 {fr M1 M2 b1 b2 : Nat} {Q : RS → Nat → AH → Prop} {h : AH} {l1 : Int}  (r1 : -2147483648 ≤ h 98 22 ∧ h 98 22 < 2147483648 := by omega) (kt : ¬ h 98 22 = 1 → Wp mX12_is (kR fr M1 M2) Q (b1, b2) 33 [zR 98, zI l1] [] 137 h) (kf : h 98 22 = 1 → Wp mX12_is (kR fr M1 M2) Q (b1, b2) 8 [zR 98, zI l1] [] 137 h) : Wp mX12_is (kR fr M1 M2) Q (b1, b2) 0 [zR 98, zI l1] [] 137 h := by
  refine s_aload_n (x := 98) dX12_is_0 rfl ?_
  refine s_get (c := 98) dX12_is_1 lX12_166 e98 (by decide) ?_
  refine s_iconst dX12_is_4 ?_
  exact s_icmp_ne (tgt := 33) dX12_is_5 (by decide) r1 ⟨by decide, by decide⟩ kt kf
theorem bX12_is_8 {fr M1 M2 b1 b2 : Nat} {Q : RS → Nat → AH → Prop} {h : AH} {l1 : Int}  (r1 : -2147483648 ≤ h 98 24 ∧ h 98 24 < 2147483648 := by omega) (kt : 9 ≤ h 98 24 → Wp mX12_is (kR fr M1 M2) Q (b1, b2) 33 [zR 98, zI l1] [] 137 h) (kf : h 98 24 < 9 → Wp mX12_is (kR fr M1 M2) Q (b1, b2) 17 [zR 98, zI l1] [] 137 h) : Wp mX12_is (kR fr M1 M2) Q (b1, b2) 8 [zR 98, zI l1] [] 137 h := by
  refine s_aload_n (x := 98) dX12_is_8 rfl ?_
  refine s_get (c := 98) dX12_is_9 lX12_176 e98 (by decide) ?_
  refine s_bipush dX12_is_12 (by decide) ?_
  exact s_icmp_ge (tgt := 33) dX12_is_14 (by decide) r1 ⟨by decide, by decide⟩ kt kf
theorem bX12_is_17 {fr M1 M2 b1 b2 : Nat} {Q : RS → Nat → AH → Prop} {h : AH} {l1 : Int} {R : Int → AH → Prop}   (hS : Sp mX12_lettersOf true (fr - 1) 0 0 [zI l1] 137 h (rL R)) (hf : 1 ≤ fr := by omega) (kk : ∀ (x : Int) (h' : AH), R x h' → Wp mX12_is (kR fr M1 M2) Q (b1, b2) 25 [zR 98, zI l1] [zL x, zL (h 98 26)] 137 h') : Wp mX12_is (kR fr M1 M2) Q (b1, b2) 17 [zR 98, zI l1] [] 137 h := by
  refine s_aload_n (x := 98) dX12_is_17 rfl ?_
  refine s_getL (c := 98) dX12_is_18 lX12_159 e98 rfl ?_
  refine s_iload_n (x := l1) dX12_is_21 rfl ?_
  exact s_callS (as := [zI l1]) (st := [zL (h 98 26)]) dX12_is_22 kX12_183 rfl rfl (Nat.le_of_ble_eq_true rfl) hS (show fr - 1 + 1 ≤ fr by omega) (Nat.zero_le _) (Nat.zero_le _) (fun v n' h' hP _ => by obtain ⟨x, e, rfl, hR⟩ := hP; cases e; exact kk x h' hR) (fun E n' h' _ z => (rL_nt _ _ _ z).elim)
theorem bX12_is_25 {fr M1 M2 b1 b2 : Nat} {Q : RS → Nat → AH → Prop} {h : AH} {s1 s0 : Int} {x0 x1 : AV}  (r1 : -2147483648 ≤ (lg_cmp (Int64.ofInt s1) (Int64.ofInt s0)).toInt ∧ (lg_cmp (Int64.ofInt s1) (Int64.ofInt s0)).toInt < 2147483648 := by omega) (kt : ¬ (lg_cmp (Int64.ofInt s1) (Int64.ofInt s0)).toInt = 0 → Wp mX12_is (kR fr M1 M2) Q (b1, b2) 33 [none, none] [] 137 h) (kf : (lg_cmp (Int64.ofInt s1) (Int64.ofInt s0)).toInt = 0 → Wp mX12_is (kR fr M1 M2) Q (b1, b2) 29 [none, none] [] 137 h) : Wp mX12_is (kR fr M1 M2) Q (b1, b2) 25 [x0, x1] [zL s0, zL s1] 137 h := by
  refine s_fgt (fgt_n _ (fgt_n _ fgt_0)) ?_
  refine s_lcmp dX12_is_25 ?_
  exact s_if_ne (tgt := 33) dX12_is_26 (by decide) r1 kt kf
theorem bX12_is_29 {fr M1 M2 b1 b2 : Nat} {Q : RS → Nat → AH → Prop} {h : AH} {x0 x1 : AV}   (kk : Wp mX12_is (kR fr M1 M2) Q (b1, b2) 34 [none, none] [zI 1] 137 h) : Wp mX12_is (kR fr M1 M2) Q (b1, b2) 29 [x0, x1] [] 137 h := by
  refine s_fgt (fgt_n _ (fgt_n _ fgt_0)) ?_
  refine s_iconst dX12_is_29 ?_
  exact s_goto (tgt := 34) dX12_is_30 (by decide) kk
theorem bX12_is_33 {fr M1 M2 b1 b2 : Nat} {Q : RS → Nat → AH → Prop} {h : AH} {x0 x1 : AV}   (kk : Wp mX12_is (kR fr M1 M2) Q (b1, b2) 34 [none, none] [zI 0] 137 h) : Wp mX12_is (kR fr M1 M2) Q (b1, b2) 33 [x0, x1] [] 137 h := by
  refine s_fgt (fgt_n _ (fgt_n _ fgt_0)) ?_
  refine s_iconst dX12_is_33 ?_
  exact kk
theorem bX12_is_34 {fr M1 M2 b1 b2 : Nat} {Q : RS → Nat → AH → Prop} {h : AH} {s0 : Int} {x0 x1 : AV}  (r1 : s0 = 0 ∨ s0 = 1 := by omega) (hq : Q (.inl (some (zI s0))) 137 h) : Wp mX12_is (kR fr M1 M2) Q (b1, b2) 34 [x0, x1] [zI s0] 137 h := by
  refine s_fgt (fgt_n _ (fgt_n _ fgt_0)) ?_
  exact s_ireturn dX12_is_34 ⟨.boolean, rfl, bool_nar r1⟩ hq (fun z => by cases z)
theorem dX12_wrong_0 : decode mX12_wrong.cd 0 = .ok (.aload_n 0, 1) := by decide +kernel
theorem dX12_wrong_1 : decode mX12_wrong.cd 1 = .ok (.getfield 187, 3) := by decide +kernel
theorem dX12_wrong_4 : decode mX12_wrong.cd 4 = .ok (.ifCond .eq 4, 3) := by decide +kernel
theorem dX12_wrong_7 : decode mX12_wrong.cd 7 = .ok (.return_, 1) := by decide +kernel
theorem dX12_wrong_8 : decode mX12_wrong.cd 8 = .ok (.aload_n 0, 1) := by decide +kernel
theorem dX12_wrong_9 : decode mX12_wrong.cd 9 = .ok (.iload_n 1, 1) := by decide +kernel
theorem dX12_wrong_10 : decode mX12_wrong.cd 10 = .ok (.putfield 187, 3) := by decide +kernel
theorem dX12_wrong_13 : decode mX12_wrong.cd 13 = .ok (.aload_n 0, 1) := by decide +kernel
theorem dX12_wrong_14 : decode mX12_wrong.cd 14 = .ok (.aload_n 0, 1) := by decide +kernel
theorem dX12_wrong_15 : decode mX12_wrong.cd 15 = .ok (.getfield 156, 3) := by decide +kernel
theorem dX12_wrong_18 : decode mX12_wrong.cd 18 = .ok (.putfield 38, 3) := by decide +kernel
theorem dX12_wrong_21 : decode mX12_wrong.cd 21 = .ok (.return_, 1) := by decide +kernel
theorem bX12_wrong_0 {fr M1 M2 b1 b2 : Nat} {Q : RS → Nat → AH → Prop} {h : AH} {l1 : Int}  (r1 : -2147483648 ≤ h 98 17 ∧ h 98 17 < 2147483648 := by omega) (kt : h 98 17 = 0 → Wp mX12_wrong (kR fr M1 M2) Q (b1, b2) 8 [zR 98, zI l1] [] 137 h) (kf : ¬ h 98 17 = 0 → Wp mX12_wrong (kR fr M1 M2) Q (b1, b2) 7 [zR 98, zI l1] [] 137 h) : Wp mX12_wrong (kR fr M1 M2) Q (b1, b2) 0 [zR 98, zI l1] [] 137 h := by
  refine s_aload_n (x := 98) dX12_wrong_0 rfl ?_
  refine s_get (c := 98) dX12_wrong_1 lX12_187 e98 (by decide) ?_
  exact s_if_eq (tgt := 8) dX12_wrong_4 (by decide) r1 kt kf
theorem bX12_wrong_7 {fr M1 M2 b1 b2 : Nat} {Q : RS → Nat → AH → Prop} {h : AH} {x0 x1 : AV}   (hq : Q (.inl none) 137 h) : Wp mX12_wrong (kR fr M1 M2) Q (b1, b2) 7 [x0, x1] [] 137 h := by
  refine s_fgt (fgt_n _ (fgt_n _ fgt_0)) ?_
  exact s_return dX12_wrong_7 rfl hq (fun z => by cases z)
theorem bX12_wrong_8 {fr M1 M2 b1 b2 : Nat} {Q : RS → Nat → AH → Prop} {h : AH} {l1 : Int}   (hq : Q (.inl none) 137 (up (up h 98 17 l1) 98 18 (h 98 23))) : Wp mX12_wrong (kR fr M1 M2) Q (b1, b2) 8 [zR 98, zI l1] [] 137 h := by
  refine s_aload_n (x := 98) dX12_wrong_8 rfl ?_
  refine s_iload_n (x := l1) dX12_wrong_9 rfl ?_
  refine s_put (c := 98) dX12_wrong_10 lX12_187 e98 ?_
  refine s_aload_n (x := 98) dX12_wrong_13 rfl ?_
  refine s_aload_n (x := 98) dX12_wrong_14 rfl ?_
  refine s_get (c := 98) dX12_wrong_15 lX12_156 e98 (by decide) ?_
  refine s_put (c := 98) dX12_wrong_18 lX12_38 e98 ?_
  exact s_return dX12_wrong_21 rfl hq (fun z => by cases z)
theorem dX12_isGood_0 : decode mX12_isGood.cd 0 = .ok (.aload_n 0, 1) := by decide +kernel
theorem dX12_isGood_1 : decode mX12_isGood.cd 1 = .ok (.getfield 187, 3) := by decide +kernel
theorem dX12_isGood_4 : decode mX12_isGood.cd 4 = .ok (.ifCond .ne 7, 3) := by decide +kernel
theorem dX12_isGood_7 : decode mX12_isGood.cd 7 = .ok (.iconst 1, 1) := by decide +kernel
theorem dX12_isGood_8 : decode mX12_isGood.cd 8 = .ok (.goto 4, 3) := by decide +kernel
theorem dX12_isGood_11 : decode mX12_isGood.cd 11 = .ok (.iconst 0, 1) := by decide +kernel
theorem dX12_isGood_12 : decode mX12_isGood.cd 12 = .ok (.ireturn, 1) := by decide +kernel
theorem bX12_isGood_0 {fr M1 M2 b1 b2 : Nat} {Q : RS → Nat → AH → Prop} {h : AH}  (r1 : -2147483648 ≤ h 98 17 ∧ h 98 17 < 2147483648 := by omega) (kt : ¬ h 98 17 = 0 → Wp mX12_isGood (kR fr M1 M2) Q (b1, b2) 11 [zR 98] [] 137 h) (kf : h 98 17 = 0 → Wp mX12_isGood (kR fr M1 M2) Q (b1, b2) 7 [zR 98] [] 137 h) : Wp mX12_isGood (kR fr M1 M2) Q (b1, b2) 0 [zR 98] [] 137 h := by
  refine s_aload_n (x := 98) dX12_isGood_0 rfl ?_
  refine s_get (c := 98) dX12_isGood_1 lX12_187 e98 (by decide) ?_
  exact s_if_ne (tgt := 11) dX12_isGood_4 (by decide) r1 kt kf
theorem bX12_isGood_7 {fr M1 M2 b1 b2 : Nat} {Q : RS → Nat → AH → Prop} {h : AH} {x0 : AV}   (kk : Wp mX12_isGood (kR fr M1 M2) Q (b1, b2) 12 [none] [zI 1] 137 h) : Wp mX12_isGood (kR fr M1 M2) Q (b1, b2) 7 [x0] [] 137 h := by
  refine s_fgt (fgt_n _ fgt_0) ?_
  refine s_iconst dX12_isGood_7 ?_
  exact s_goto (tgt := 12) dX12_isGood_8 (by decide) kk
theorem bX12_isGood_11 {fr M1 M2 b1 b2 : Nat} {Q : RS → Nat → AH → Prop} {h : AH} {x0 : AV}   (kk : Wp mX12_isGood (kR fr M1 M2) Q (b1, b2) 12 [none] [zI 0] 137 h) : Wp mX12_isGood (kR fr M1 M2) Q (b1, b2) 11 [x0] [] 137 h := by
  refine s_fgt (fgt_n _ fgt_0) ?_
  refine s_iconst dX12_isGood_11 ?_
  exact kk
theorem bX12_isGood_12 {fr M1 M2 b1 b2 : Nat} {Q : RS → Nat → AH → Prop} {h : AH} {s0 : Int} {x0 : AV}  (r1 : s0 = 0 ∨ s0 = 1 := by omega) (hq : Q (.inl (some (zI s0))) 137 h) : Wp mX12_isGood (kR fr M1 M2) Q (b1, b2) 12 [x0] [zI s0] 137 h := by
  refine s_fgt (fgt_n _ fgt_0) ?_
  exact s_ireturn dX12_isGood_12 ⟨.boolean, rfl, bool_nar r1⟩ hq (fun z => by cases z)
theorem dX12_need_0 : decode mX12_need.cd 0 = .ok (.aload_n 0, 1) := by decide +kernel
theorem dX12_need_1 : decode mX12_need.cd 1 = .ok (.invokevirtual 190, 3) := by decide +kernel
theorem dX12_need_4 : decode mX12_need.cd 4 = .ok (.ifCond .ne 4, 3) := by decide +kernel
theorem dX12_need_7 : decode mX12_need.cd 7 = .ok (.return_, 1) := by decide +kernel
theorem dX12_need_8 : decode mX12_need.cd 8 = .ok (.iload_n 1, 1) := by decide +kernel
theorem dX12_need_9 : decode mX12_need.cd 9 = .ok (.ifCond .eq 10, 3) := by decide +kernel
theorem dX12_need_12 : decode mX12_need.cd 12 = .ok (.aload_n 0, 1) := by decide +kernel
theorem dX12_need_13 : decode mX12_need.cd 13 = .ok (.invokevirtual 194, 3) := by decide +kernel
theorem dX12_need_16 : decode mX12_need.cd 16 = .ok (.goto 8, 3) := by decide +kernel
theorem dX12_need_19 : decode mX12_need.cd 19 = .ok (.aload_n 0, 1) := by decide +kernel
theorem dX12_need_20 : decode mX12_need.cd 20 = .ok (.iconst 1, 1) := by decide +kernel
theorem dX12_need_21 : decode mX12_need.cd 21 = .ok (.invokevirtual 197, 3) := by decide +kernel
theorem dX12_need_24 : decode mX12_need.cd 24 = .ok (.return_, 1) := by decide +kernel
theorem bX12_need_0 {fr M1 M2 b1 b2 : Nat} {Q : RS → Nat → AH → Prop} {h : AH} {l1 : Int} {R : Int → AH → Prop}   (hS : Sp mX12_isGood true (fr - 1) 0 0 [zR 98] 137 h (rI R)) (hf : 1 ≤ fr := by omega) (kk : ∀ (x : Int) (h' : AH), R x h' → Wp mX12_need (kR fr M1 M2) Q (b1, b2) 4 [zR 98, zI l1] [zI x] 137 h') : Wp mX12_need (kR fr M1 M2) Q (b1, b2) 0 [zR 98, zI l1] [] 137 h := by
  refine s_aload_n (x := 98) dX12_need_0 rfl ?_
  exact s_callV (as := []) (st := []) (o := 98) dX12_need_1 kX12_190 rfl ⟨12, 87, TX12, e98, rfl, by decide⟩ rfl rfl (Nat.le_of_ble_eq_true rfl) hS (show fr - 1 + 1 ≤ fr by omega) (Nat.zero_le _) (Nat.zero_le _) (fun v n' h' hP _ => by obtain ⟨x, e, rfl, hR⟩ := hP; cases e; exact kk x h' hR) (fun E n' h' _ z => (rI_nt _ _ _ z).elim)
theorem bX12_need_4 {fr M1 M2 b1 b2 : Nat} {Q : RS → Nat → AH → Prop} {h : AH} {l1 s0 : Int}  (r1 : -2147483648 ≤ s0 ∧ s0 < 2147483648 := by omega) (kt : ¬ s0 = 0 → Wp mX12_need (kR fr M1 M2) Q (b1, b2) 8 [zR 98, zI l1] [] 137 h) (kf : s0 = 0 → Wp mX12_need (kR fr M1 M2) Q (b1, b2) 7 [zR 98, zI l1] [] 137 h) : Wp mX12_need (kR fr M1 M2) Q (b1, b2) 4 [zR 98, zI l1] [zI s0] 137 h := by
  exact s_if_ne (tgt := 8) dX12_need_4 (by decide) r1 kt kf
theorem bX12_need_7 {fr M1 M2 b1 b2 : Nat} {Q : RS → Nat → AH → Prop} {h : AH} {x0 x1 : AV}   (hq : Q (.inl none) 137 h) : Wp mX12_need (kR fr M1 M2) Q (b1, b2) 7 [x0, x1] [] 137 h := by
  refine s_fgt (fgt_n _ (fgt_n _ fgt_0)) ?_
  exact s_return dX12_need_7 rfl hq (fun z => by cases z)
theorem bX12_need_8 {fr M1 M2 b1 b2 : Nat} {Q : RS → Nat → AH → Prop} {h : AH} {l1 : Int}  (r1 : -2147483648 ≤ l1 ∧ l1 < 2147483648 := by omega) (kt : l1 = 0 → Wp mX12_need (kR fr M1 M2) Q (b1, b2) 19 [zR 98, zI l1] [] 137 h) (kf : ¬ l1 = 0 → Wp mX12_need (kR fr M1 M2) Q (b1, b2) 12 [zR 98, zI l1] [] 137 h) : Wp mX12_need (kR fr M1 M2) Q (b1, b2) 8 [zR 98, zI l1] [] 137 h := by
  refine s_iload_n (x := l1) dX12_need_8 rfl ?_
  exact s_if_eq (tgt := 19) dX12_need_9 (by decide) r1 kt kf
theorem bX12_need_12 {fr M1 M2 b1 b2 : Nat} {Q : RS → Nat → AH → Prop} {h : AH} {x1 : AV} {R : AH → Prop}   (hS : Sp mX12_steps true (fr - 1) 0 0 [zR 98] 137 h (rV R)) (hf : 1 ≤ fr := by omega) (kk : ∀ h' : AH, R h' → Wp mX12_need (kR fr M1 M2) Q (b1, b2) 16 [zR 98, none] [] 137 h') : Wp mX12_need (kR fr M1 M2) Q (b1, b2) 12 [zR 98, x1] [] 137 h := by
  refine s_fgt (fgt_c (fgt_n _ fgt_0)) ?_
  refine s_aload_n (x := 98) dX12_need_12 rfl ?_
  exact s_callV (as := []) (st := []) (o := 98) dX12_need_13 kX12_194 rfl ⟨12, 87, TX12, e98, rfl, by decide⟩ rfl rfl (Nat.le_of_ble_eq_true rfl) hS (show fr - 1 + 1 ≤ fr by omega) (Nat.zero_le _) (Nat.zero_le _) (fun v n' h' hP _ => by obtain ⟨e, rfl, hR⟩ := hP; cases e; exact kk h' hR) (fun E n' h' _ z => (rV_nt _ _ _ z).elim)
theorem bX12_need_16 {fr M1 M2 b1 b2 : Nat} {Q : RS → Nat → AH → Prop} {h : AH} {x0 x1 : AV}   (kk : Wp mX12_need (kR fr M1 M2) Q (b1, b2) 24 [none, none] [] 137 h) : Wp mX12_need (kR fr M1 M2) Q (b1, b2) 16 [x0, x1] [] 137 h := by
  refine s_fgt (fgt_n _ (fgt_n _ fgt_0)) ?_
  exact s_goto (tgt := 24) dX12_need_16 (by decide) kk
theorem bX12_need_19 {fr M1 M2 b1 b2 : Nat} {Q : RS → Nat → AH → Prop} {h : AH} {x1 : AV} {R : AH → Prop}   (hS : Sp mX12_wrong true (fr - 1) 0 0 [zR 98, zI 1] 137 h (rV R)) (hf : 1 ≤ fr := by omega) (kk : ∀ h' : AH, R h' → Wp mX12_need (kR fr M1 M2) Q (b1, b2) 24 [zR 98, none] [] 137 h') : Wp mX12_need (kR fr M1 M2) Q (b1, b2) 19 [zR 98, x1] [] 137 h := by
  refine s_fgt (fgt_c (fgt_n _ fgt_0)) ?_
  refine s_aload_n (x := 98) dX12_need_19 rfl ?_
  refine s_iconst dX12_need_20 ?_
  exact s_callV (as := [zI 1]) (st := []) (o := 98) dX12_need_21 kX12_197 rfl ⟨12, 87, TX12, e98, rfl, by decide⟩ rfl rfl (Nat.le_of_ble_eq_true rfl) hS (show fr - 1 + 1 ≤ fr by omega) (Nat.zero_le _) (Nat.zero_le _) (fun v n' h' hP _ => by obtain ⟨e, rfl, hR⟩ := hP; cases e; exact kk h' hR) (fun E n' h' _ z => (rV_nt _ _ _ z).elim)
theorem bX12_need_24 {fr M1 M2 b1 b2 : Nat} {Q : RS → Nat → AH → Prop} {h : AH} {x0 x1 : AV}   (hq : Q (.inl none) 137 h) : Wp mX12_need (kR fr M1 M2) Q (b1, b2) 24 [x0, x1] [] 137 h := by
  refine s_fgt (fgt_n _ (fgt_n _ fgt_0)) ?_
  exact s_return dX12_need_24 rfl hq (fun z => by cases z)
theorem dX12_number_0 : decode mX12_number.cd 0 = .ok (.aload_n 0, 1) := by decide +kernel
theorem dX12_number_1 : decode mX12_number.cd 1 = .ok (.invokevirtual 190, 3) := by decide +kernel
theorem dX12_number_4 : decode mX12_number.cd 4 = .ok (.ifCond .ne 5, 3) := by decide +kernel
theorem dX12_number_7 : decode mX12_number.cd 7 = .ok (.iconst 0, 1) := by decide +kernel
theorem dX12_number_8 : decode mX12_number.cd 8 = .ok (.ireturn, 1) := by decide +kernel
theorem dX12_number_9 : decode mX12_number.cd 9 = .ok (.aload_n 0, 1) := by decide +kernel
theorem dX12_number_10 : decode mX12_number.cd 10 = .ok (.getfield 166, 3) := by decide +kernel
theorem dX12_number_13 : decode mX12_number.cd 13 = .ok (.iconst 2, 1) := by decide +kernel
theorem dX12_number_14 : decode mX12_number.cd 14 = .ok (.if_icmp .eq 11, 3) := by decide +kernel
theorem dX12_number_17 : decode mX12_number.cd 17 = .ok (.aload_n 0, 1) := by decide +kernel
theorem dX12_number_18 : decode mX12_number.cd 18 = .ok (.iconst 1, 1) := by decide +kernel
theorem dX12_number_19 : decode mX12_number.cd 19 = .ok (.invokevirtual 197, 3) := by decide +kernel
theorem dX12_number_22 : decode mX12_number.cd 22 = .ok (.goto 32, 3) := by decide +kernel
theorem dX12_number_25 : decode mX12_number.cd 25 = .ok (.aload_n 0, 1) := by decide +kernel
theorem dX12_number_26 : decode mX12_number.cd 26 = .ok (.getfield 176, 3) := by decide +kernel
theorem dX12_number_29 : decode mX12_number.cd 29 = .ok (.iconst 4, 1) := by decide +kernel
theorem dX12_number_30 : decode mX12_number.cd 30 = .ok (.if_icmp .gt 19, 3) := by decide +kernel
theorem dX12_number_33 : decode mX12_number.cd 33 = .ok (.aload_n 0, 1) := by decide +kernel
theorem dX12_number_34 : decode mX12_number.cd 34 = .ok (.getfield 163, 3) := by decide +kernel
theorem dX12_number_37 : decode mX12_number.cd 37 = .ok (.iload_n 1, 1) := by decide +kernel
theorem dX12_number_38 : decode mX12_number.cd 38 = .ok (.if_icmp .lt 11, 3) := by decide +kernel
theorem dX12_number_41 : decode mX12_number.cd 41 = .ok (.aload_n 0, 1) := by decide +kernel
theorem dX12_number_42 : decode mX12_number.cd 42 = .ok (.getfield 163, 3) := by decide +kernel
theorem dX12_number_45 : decode mX12_number.cd 45 = .ok (.iload_n 2, 1) := by decide +kernel
theorem dX12_number_46 : decode mX12_number.cd 46 = .ok (.if_icmp .le 8, 3) := by decide +kernel
theorem dX12_number_49 : decode mX12_number.cd 49 = .ok (.aload_n 0, 1) := by decide +kernel
theorem dX12_number_50 : decode mX12_number.cd 50 = .ok (.iconst 2, 1) := by decide +kernel
theorem dX12_number_51 : decode mX12_number.cd 51 = .ok (.invokevirtual 197, 3) := by decide +kernel
theorem dX12_number_54 : decode mX12_number.cd 54 = .ok (.aload_n 0, 1) := by decide +kernel
theorem dX12_number_55 : decode mX12_number.cd 55 = .ok (.getfield 163, 3) := by decide +kernel
theorem dX12_number_58 : decode mX12_number.cd 58 = .ok (.istore_n 3, 1) := by decide +kernel
theorem dX12_number_59 : decode mX12_number.cd 59 = .ok (.aload_n 0, 1) := by decide +kernel
theorem dX12_number_60 : decode mX12_number.cd 60 = .ok (.invokevirtual 190, 3) := by decide +kernel
theorem dX12_number_63 : decode mX12_number.cd 63 = .ok (.ifCond .eq 7, 3) := by decide +kernel
theorem dX12_number_66 : decode mX12_number.cd 66 = .ok (.aload_n 0, 1) := by decide +kernel
theorem dX12_number_67 : decode mX12_number.cd 67 = .ok (.invokevirtual 194, 3) := by decide +kernel
theorem dX12_number_70 : decode mX12_number.cd 70 = .ok (.iload_n 3, 1) := by decide +kernel
theorem dX12_number_71 : decode mX12_number.cd 71 = .ok (.ireturn, 1) := by decide +kernel
theorem bX12_number_0 {fr M1 M2 b1 b2 : Nat} {Q : RS → Nat → AH → Prop} {h : AH} {l1 l2 : Int} {x3 : AV} {R : Int → AH → Prop}   (hS : Sp mX12_isGood true (fr - 1) 0 0 [zR 98] 137 h (rI R)) (hf : 1 ≤ fr := by omega) (kk : ∀ (x : Int) (h' : AH), R x h' → Wp mX12_number (kR fr M1 M2) Q (b1, b2) 4 [zR 98, zI l1, zI l2, none] [zI x] 137 h') : Wp mX12_number (kR fr M1 M2) Q (b1, b2) 0 [zR 98, zI l1, zI l2, x3] [] 137 h := by
  refine s_fgt (fgt_c (fgt_c (fgt_c (fgt_n _ fgt_0)))) ?_
  refine s_aload_n (x := 98) dX12_number_0 rfl ?_
  exact s_callV (as := []) (st := []) (o := 98) dX12_number_1 kX12_190 rfl ⟨12, 87, TX12, e98, rfl, by decide⟩ rfl rfl (Nat.le_of_ble_eq_true rfl) hS (show fr - 1 + 1 ≤ fr by omega) (Nat.zero_le _) (Nat.zero_le _) (fun v n' h' hP _ => by obtain ⟨x, e, rfl, hR⟩ := hP; cases e; exact kk x h' hR) (fun E n' h' _ z => (rI_nt _ _ _ z).elim)
theorem bX12_number_4 {fr M1 M2 b1 b2 : Nat} {Q : RS → Nat → AH → Prop} {h : AH} {l1 l2 s0 : Int} {x3 : AV}  (r1 : -2147483648 ≤ s0 ∧ s0 < 2147483648 := by omega) (kt : ¬ s0 = 0 → Wp mX12_number (kR fr M1 M2) Q (b1, b2) 9 [zR 98, zI l1, zI l2, none] [] 137 h) (kf : s0 = 0 → Wp mX12_number (kR fr M1 M2) Q (b1, b2) 7 [zR 98, zI l1, zI l2, none] [] 137 h) : Wp mX12_number (kR fr M1 M2) Q (b1, b2) 4 [zR 98, zI l1, zI l2, x3] [zI s0] 137 h := by
  refine s_fgt (fgt_c (fgt_c (fgt_c (fgt_n _ fgt_0)))) ?_
  exact s_if_ne (tgt := 9) dX12_number_4 (by decide) r1 kt kf
theorem bX12_number_7 {fr M1 M2 b1 b2 : Nat} {Q : RS → Nat → AH → Prop} {h : AH} {x0 x1 x2 x3 : AV}   (hq : Q (.inl (some (zI 0))) 137 h) : Wp mX12_number (kR fr M1 M2) Q (b1, b2) 7 [x0, x1, x2, x3] [] 137 h := by
  refine s_fgt (fgt_n _ (fgt_n _ (fgt_n _ (fgt_n _ fgt_0)))) ?_
  refine s_iconst dX12_number_7 ?_
  exact s_ireturn dX12_number_8 ⟨.int, rfl, rfl⟩ hq (fun z => by cases z)
theorem bX12_number_9 {fr M1 M2 b1 b2 : Nat} {Q : RS → Nat → AH → Prop} {h : AH} {l1 l2 : Int} {x3 : AV}  (r1 : -2147483648 ≤ h 98 22 ∧ h 98 22 < 2147483648 := by omega) (kt : h 98 22 = 2 → Wp mX12_number (kR fr M1 M2) Q (b1, b2) 25 [zR 98, zI l1, zI l2, none] [] 137 h) (kf : ¬ h 98 22 = 2 → Wp mX12_number (kR fr M1 M2) Q (b1, b2) 17 [zR 98, zI l1, zI l2, none] [] 137 h) : Wp mX12_number (kR fr M1 M2) Q (b1, b2) 9 [zR 98, zI l1, zI l2, x3] [] 137 h := by
  refine s_fgt (fgt_c (fgt_c (fgt_c (fgt_n _ fgt_0)))) ?_
  refine s_aload_n (x := 98) dX12_number_9 rfl ?_
  refine s_get (c := 98) dX12_number_10 lX12_166 e98 (by decide) ?_
  refine s_iconst dX12_number_13 ?_
  exact s_icmp_eq (tgt := 25) dX12_number_14 (by decide) r1 ⟨by decide, by decide⟩ kt kf
theorem bX12_number_17 {fr M1 M2 b1 b2 : Nat} {Q : RS → Nat → AH → Prop} {h : AH} {x1 x2 x3 : AV} {R : AH → Prop}   (hS : Sp mX12_wrong true (fr - 1) 0 0 [zR 98, zI 1] 137 h (rV R)) (hf : 1 ≤ fr := by omega) (kk : ∀ h' : AH, R h' → Wp mX12_number (kR fr M1 M2) Q (b1, b2) 22 [zR 98, none, none, none] [] 137 h') : Wp mX12_number (kR fr M1 M2) Q (b1, b2) 17 [zR 98, x1, x2, x3] [] 137 h := by
  refine s_fgt (fgt_c (fgt_n _ (fgt_n _ (fgt_n _ fgt_0)))) ?_
  refine s_aload_n (x := 98) dX12_number_17 rfl ?_
  refine s_iconst dX12_number_18 ?_
  exact s_callV (as := [zI 1]) (st := []) (o := 98) dX12_number_19 kX12_197 rfl ⟨12, 87, TX12, e98, rfl, by decide⟩ rfl rfl (Nat.le_of_ble_eq_true rfl) hS (show fr - 1 + 1 ≤ fr by omega) (Nat.zero_le _) (Nat.zero_le _) (fun v n' h' hP _ => by obtain ⟨e, rfl, hR⟩ := hP; cases e; exact kk h' hR) (fun E n' h' _ z => (rV_nt _ _ _ z).elim)
theorem bX12_number_22 {fr M1 M2 b1 b2 : Nat} {Q : RS → Nat → AH → Prop} {h : AH} {x1 x2 x3 : AV}   (kk : Wp mX12_number (kR fr M1 M2) Q (b1, b2) 54 [zR 98, none, none, none] [] 137 h) : Wp mX12_number (kR fr M1 M2) Q (b1, b2) 22 [zR 98, x1, x2, x3] [] 137 h := by
  refine s_fgt (fgt_c (fgt_n _ (fgt_n _ (fgt_n _ fgt_0)))) ?_
  exact s_goto (tgt := 54) dX12_number_22 (by decide) kk
theorem bX12_number_25 {fr M1 M2 b1 b2 : Nat} {Q : RS → Nat → AH → Prop} {h : AH} {l1 l2 : Int} {x3 : AV}  (r1 : -2147483648 ≤ h 98 24 ∧ h 98 24 < 2147483648 := by omega) (kt : 4 < h 98 24 → Wp mX12_number (kR fr M1 M2) Q (b1, b2) 49 [zR 98, zI l1, zI l2, none] [] 137 h) (kf : h 98 24 ≤ 4 → Wp mX12_number (kR fr M1 M2) Q (b1, b2) 33 [zR 98, zI l1, zI l2, none] [] 137 h) : Wp mX12_number (kR fr M1 M2) Q (b1, b2) 25 [zR 98, zI l1, zI l2, x3] [] 137 h := by
  refine s_fgt (fgt_c (fgt_c (fgt_c (fgt_n _ fgt_0)))) ?_
  refine s_aload_n (x := 98) dX12_number_25 rfl ?_
  refine s_get (c := 98) dX12_number_26 lX12_176 e98 (by decide) ?_
  refine s_iconst dX12_number_29 ?_
  exact s_icmp_gt (tgt := 49) dX12_number_30 (by decide) r1 ⟨by decide, by decide⟩ kt kf
theorem bX12_number_33 {fr M1 M2 b1 b2 : Nat} {Q : RS → Nat → AH → Prop} {h : AH} {l1 l2 : Int} {x3 : AV}  (r1 : -2147483648 ≤ h 98 25 ∧ h 98 25 < 2147483648 := by omega) (r2 : -2147483648 ≤ l1 ∧ l1 < 2147483648 := by omega) (kt : h 98 25 < l1 → Wp mX12_number (kR fr M1 M2) Q (b1, b2) 49 [zR 98, zI l1, zI l2, none] [] 137 h) (kf : l1 ≤ h 98 25 → Wp mX12_number (kR fr M1 M2) Q (b1, b2) 41 [zR 98, zI l1, zI l2, none] [] 137 h) : Wp mX12_number (kR fr M1 M2) Q (b1, b2) 33 [zR 98, zI l1, zI l2, x3] [] 137 h := by
  refine s_fgt (fgt_c (fgt_c (fgt_c (fgt_n _ fgt_0)))) ?_
  refine s_aload_n (x := 98) dX12_number_33 rfl ?_
  refine s_get (c := 98) dX12_number_34 lX12_163 e98 (by decide) ?_
  refine s_iload_n (x := l1) dX12_number_37 rfl ?_
  exact s_icmp_lt (tgt := 49) dX12_number_38 (by decide) r1 r2 kt kf
theorem bX12_number_41 {fr M1 M2 b1 b2 : Nat} {Q : RS → Nat → AH → Prop} {h : AH} {l2 : Int} {x1 x3 : AV}  (r1 : -2147483648 ≤ h 98 25 ∧ h 98 25 < 2147483648 := by omega) (r2 : -2147483648 ≤ l2 ∧ l2 < 2147483648 := by omega) (kt : h 98 25 ≤ l2 → Wp mX12_number (kR fr M1 M2) Q (b1, b2) 54 [zR 98, none, zI l2, none] [] 137 h) (kf : l2 < h 98 25 → Wp mX12_number (kR fr M1 M2) Q (b1, b2) 49 [zR 98, none, zI l2, none] [] 137 h) : Wp mX12_number (kR fr M1 M2) Q (b1, b2) 41 [zR 98, x1, zI l2, x3] [] 137 h := by
  refine s_fgt (fgt_c (fgt_n _ (fgt_c (fgt_n _ fgt_0)))) ?_
  refine s_aload_n (x := 98) dX12_number_41 rfl ?_
  refine s_get (c := 98) dX12_number_42 lX12_163 e98 (by decide) ?_
  refine s_iload_n (x := l2) dX12_number_45 rfl ?_
  exact s_icmp_le (tgt := 54) dX12_number_46 (by decide) r1 r2 kt kf
theorem bX12_number_49 {fr M1 M2 b1 b2 : Nat} {Q : RS → Nat → AH → Prop} {h : AH} {x1 x2 x3 : AV} {R : AH → Prop}   (hS : Sp mX12_wrong true (fr - 1) 0 0 [zR 98, zI 2] 137 h (rV R)) (hf : 1 ≤ fr := by omega) (kk : ∀ h' : AH, R h' → Wp mX12_number (kR fr M1 M2) Q (b1, b2) 54 [zR 98, none, none, none] [] 137 h') : Wp mX12_number (kR fr M1 M2) Q (b1, b2) 49 [zR 98, x1, x2, x3] [] 137 h := by
  refine s_fgt (fgt_c (fgt_n _ (fgt_n _ (fgt_n _ fgt_0)))) ?_
  refine s_aload_n (x := 98) dX12_number_49 rfl ?_
  refine s_iconst dX12_number_50 ?_
  exact s_callV (as := [zI 2]) (st := []) (o := 98) dX12_number_51 kX12_197 rfl ⟨12, 87, TX12, e98, rfl, by decide⟩ rfl rfl (Nat.le_of_ble_eq_true rfl) hS (show fr - 1 + 1 ≤ fr by omega) (Nat.zero_le _) (Nat.zero_le _) (fun v n' h' hP _ => by obtain ⟨e, rfl, hR⟩ := hP; cases e; exact kk h' hR) (fun E n' h' _ z => (rV_nt _ _ _ z).elim)
theorem bX12_number_54 {fr M1 M2 b1 b2 : Nat} {Q : RS → Nat → AH → Prop} {h : AH} {x1 x2 x3 : AV} {R : Int → AH → Prop}   (hS : Sp mX12_isGood true (fr - 1) 0 0 [zR 98] 137 h (rI R)) (hf : 1 ≤ fr := by omega) (kk : ∀ (x : Int) (h' : AH), R x h' → Wp mX12_number (kR fr M1 M2) Q (b1, b2) 63 [zR 98, none, none, zI (h 98 25)] [zI x] 137 h') : Wp mX12_number (kR fr M1 M2) Q (b1, b2) 54 [zR 98, x1, x2, x3] [] 137 h := by
  refine s_fgt (fgt_c (fgt_n _ (fgt_n _ (fgt_n _ fgt_0)))) ?_
  refine s_aload_n (x := 98) dX12_number_54 rfl ?_
  refine s_get (c := 98) dX12_number_55 lX12_163 e98 (by decide) ?_
  refine s_istore_n dX12_number_58 rfl (by decide) ?_
  refine s_aload_n (x := 98) dX12_number_59 rfl ?_
  exact s_callV (as := []) (st := []) (o := 98) dX12_number_60 kX12_190 rfl ⟨12, 87, TX12, e98, rfl, by decide⟩ rfl rfl (Nat.le_of_ble_eq_true rfl) hS (show fr - 1 + 1 ≤ fr by omega) (Nat.zero_le _) (Nat.zero_le _) (fun v n' h' hP _ => by obtain ⟨x, e, rfl, hR⟩ := hP; cases e; exact kk x h' hR) (fun E n' h' _ z => (rI_nt _ _ _ z).elim)
theorem bX12_number_63 {fr M1 M2 b1 b2 : Nat} {Q : RS → Nat → AH → Prop} {h : AH} {l3 s0 : Int} {x1 x2 : AV}  (r1 : -2147483648 ≤ s0 ∧ s0 < 2147483648 := by omega) (kt : s0 = 0 → Wp mX12_number (kR fr M1 M2) Q (b1, b2) 70 [zR 98, none, none, zI l3] [] 137 h) (kf : ¬ s0 = 0 → Wp mX12_number (kR fr M1 M2) Q (b1, b2) 66 [zR 98, none, none, zI l3] [] 137 h) : Wp mX12_number (kR fr M1 M2) Q (b1, b2) 63 [zR 98, x1, x2, zI l3] [zI s0] 137 h := by
  refine s_fgt (fgt_c (fgt_n _ (fgt_n _ (fgt_c fgt_0)))) ?_
  exact s_if_eq (tgt := 70) dX12_number_63 (by decide) r1 kt kf
theorem bX12_number_66 {fr M1 M2 b1 b2 : Nat} {Q : RS → Nat → AH → Prop} {h : AH} {l3 : Int} {x1 x2 : AV} {R : AH → Prop}   (hS : Sp mX12_steps true (fr - 1) 0 0 [zR 98] 137 h (rV R)) (hf : 1 ≤ fr := by omega) (kk : ∀ h' : AH, R h' → Wp mX12_number (kR fr M1 M2) Q (b1, b2) 70 [zR 98, none, none, zI l3] [] 137 h') : Wp mX12_number (kR fr M1 M2) Q (b1, b2) 66 [zR 98, x1, x2, zI l3] [] 137 h := by
  refine s_fgt (fgt_c (fgt_n _ (fgt_n _ (fgt_c fgt_0)))) ?_
  refine s_aload_n (x := 98) dX12_number_66 rfl ?_
  exact s_callV (as := []) (st := []) (o := 98) dX12_number_67 kX12_194 rfl ⟨12, 87, TX12, e98, rfl, by decide⟩ rfl rfl (Nat.le_of_ble_eq_true rfl) hS (show fr - 1 + 1 ≤ fr by omega) (Nat.zero_le _) (Nat.zero_le _) (fun v n' h' hP _ => by obtain ⟨e, rfl, hR⟩ := hP; cases e; exact kk h' hR) (fun E n' h' _ z => (rV_nt _ _ _ z).elim)
theorem bX12_number_70 {fr M1 M2 b1 b2 : Nat} {Q : RS → Nat → AH → Prop} {h : AH} {l3 : Int} {x0 x1 x2 : AV}   (hq : Q (.inl (some (zI l3))) 137 h) : Wp mX12_number (kR fr M1 M2) Q (b1, b2) 70 [x0, x1, x2, zI l3] [] 137 h := by
  refine s_fgt (fgt_n _ (fgt_n _ (fgt_n _ (fgt_c fgt_0)))) ?_
  refine s_iload_n (x := l3) dX12_number_70 rfl ?_
  exact s_ireturn dX12_number_71 ⟨.int, rfl, rfl⟩ hq (fun z => by cases z)
theorem dX12_soundHere_0 : decode mX12_soundHere.cd 0 = .ok (.aload_n 0, 1) := by decide +kernel
theorem dX12_soundHere_1 : decode mX12_soundHere.cd 1 = .ok (.invokevirtual 190, 3) := by decide +kernel
theorem dX12_soundHere_4 : decode mX12_soundHere.cd 4 = .ok (.ifCond .ne 5, 3) := by decide +kernel
theorem dX12_soundHere_7 : decode mX12_soundHere.cd 7 = .ok (.iconst 0, 1) := by decide +kernel
theorem dX12_soundHere_8 : decode mX12_soundHere.cd 8 = .ok (.ireturn, 1) := by decide +kernel
theorem dX12_soundHere_9 : decode mX12_soundHere.cd 9 = .ok (.aload_n 0, 1) := by decide +kernel
theorem dX12_soundHere_10 : decode mX12_soundHere.cd 10 = .ok (.getfield 166, 3) := by decide +kernel
theorem dX12_soundHere_13 : decode mX12_soundHere.cd 13 = .ok (.iconst 2, 1) := by decide +kernel
theorem dX12_soundHere_14 : decode mX12_soundHere.cd 14 = .ok (.if_icmp .eq 11, 3) := by decide +kernel
theorem dX12_soundHere_17 : decode mX12_soundHere.cd 17 = .ok (.aload_n 0, 1) := by decide +kernel
theorem dX12_soundHere_18 : decode mX12_soundHere.cd 18 = .ok (.iconst 1, 1) := by decide +kernel
theorem dX12_soundHere_19 : decode mX12_soundHere.cd 19 = .ok (.invokevirtual 197, 3) := by decide +kernel
theorem dX12_soundHere_22 : decode mX12_soundHere.cd 22 = .ok (.goto 35, 3) := by decide +kernel
theorem dX12_soundHere_25 : decode mX12_soundHere.cd 25 = .ok (.aload_n 0, 1) := by decide +kernel
theorem dX12_soundHere_26 : decode mX12_soundHere.cd 26 = .ok (.getfield 176, 3) := by decide +kernel
theorem dX12_soundHere_29 : decode mX12_soundHere.cd 29 = .ok (.iconst 4, 1) := by decide +kernel
theorem dX12_soundHere_30 : decode mX12_soundHere.cd 30 = .ok (.if_icmp .le 11, 3) := by decide +kernel
theorem dX12_soundHere_33 : decode mX12_soundHere.cd 33 = .ok (.aload_n 0, 1) := by decide +kernel
theorem dX12_soundHere_34 : decode mX12_soundHere.cd 34 = .ok (.iconst 2, 1) := by decide +kernel
theorem dX12_soundHere_35 : decode mX12_soundHere.cd 35 = .ok (.invokevirtual 197, 3) := by decide +kernel
theorem dX12_soundHere_38 : decode mX12_soundHere.cd 38 = .ok (.goto 19, 3) := by decide +kernel
theorem dX12_soundHere_41 : decode mX12_soundHere.cd 41 = .ok (.aload_n 0, 1) := by decide +kernel
theorem dX12_soundHere_42 : decode mX12_soundHere.cd 42 = .ok (.getfield 163, 3) := by decide +kernel
theorem dX12_soundHere_45 : decode mX12_soundHere.cd 45 = .ok (.aload_n 0, 1) := by decide +kernel
theorem dX12_soundHere_46 : decode mX12_soundHere.cd 46 = .ok (.getfield 200, 3) := by decide +kernel
theorem dX12_soundHere_49 : decode mX12_soundHere.cd 49 = .ok (.if_icmp .lt 8, 3) := by decide +kernel
theorem dX12_soundHere_52 : decode mX12_soundHere.cd 52 = .ok (.aload_n 0, 1) := by decide +kernel
theorem dX12_soundHere_53 : decode mX12_soundHere.cd 53 = .ok (.iconst 3, 1) := by decide +kernel
theorem dX12_soundHere_54 : decode mX12_soundHere.cd 54 = .ok (.invokevirtual 197, 3) := by decide +kernel
theorem dX12_soundHere_57 : decode mX12_soundHere.cd 57 = .ok (.aload_n 0, 1) := by decide +kernel
theorem dX12_soundHere_58 : decode mX12_soundHere.cd 58 = .ok (.invokevirtual 190, 3) := by decide +kernel
theorem dX12_soundHere_61 : decode mX12_soundHere.cd 61 = .ok (.ireturn, 1) := by decide +kernel
theorem bX12_soundHere_0 {fr M1 M2 b1 b2 : Nat} {Q : RS → Nat → AH → Prop} {h : AH} {R : Int → AH → Prop}   (hS : Sp mX12_isGood true (fr - 1) 0 0 [zR 98] 137 h (rI R)) (hf : 1 ≤ fr := by omega) (kk : ∀ (x : Int) (h' : AH), R x h' → Wp mX12_soundHere (kR fr M1 M2) Q (b1, b2) 4 [zR 98] [zI x] 137 h') : Wp mX12_soundHere (kR fr M1 M2) Q (b1, b2) 0 [zR 98] [] 137 h := by
  refine s_aload_n (x := 98) dX12_soundHere_0 rfl ?_
  exact s_callV (as := []) (st := []) (o := 98) dX12_soundHere_1 kX12_190 rfl ⟨12, 87, TX12, e98, rfl, by decide⟩ rfl rfl (Nat.le_of_ble_eq_true rfl) hS (show fr - 1 + 1 ≤ fr by omega) (Nat.zero_le _) (Nat.zero_le _) (fun v n' h' hP _ => by obtain ⟨x, e, rfl, hR⟩ := hP; cases e; exact kk x h' hR) (fun E n' h' _ z => (rI_nt _ _ _ z).elim)
theorem bX12_soundHere_4 {fr M1 M2 b1 b2 : Nat} {Q : RS → Nat → AH → Prop} {h : AH} {s0 : Int}  (r1 : -2147483648 ≤ s0 ∧ s0 < 2147483648 := by omega) (kt : ¬ s0 = 0 → Wp mX12_soundHere (kR fr M1 M2) Q (b1, b2) 9 [zR 98] [] 137 h) (kf : s0 = 0 → Wp mX12_soundHere (kR fr M1 M2) Q (b1, b2) 7 [zR 98] [] 137 h) : Wp mX12_soundHere (kR fr M1 M2) Q (b1, b2) 4 [zR 98] [zI s0] 137 h := by
  exact s_if_ne (tgt := 9) dX12_soundHere_4 (by decide) r1 kt kf
theorem bX12_soundHere_7 {fr M1 M2 b1 b2 : Nat} {Q : RS → Nat → AH → Prop} {h : AH} {x0 : AV}   (hq : Q (.inl (some (zI 0))) 137 h) : Wp mX12_soundHere (kR fr M1 M2) Q (b1, b2) 7 [x0] [] 137 h := by
  refine s_fgt (fgt_n _ fgt_0) ?_
  refine s_iconst dX12_soundHere_7 ?_
  exact s_ireturn dX12_soundHere_8 ⟨.boolean, rfl, by decide⟩ hq (fun z => by cases z)
theorem bX12_soundHere_9 {fr M1 M2 b1 b2 : Nat} {Q : RS → Nat → AH → Prop} {h : AH}  (r1 : -2147483648 ≤ h 98 22 ∧ h 98 22 < 2147483648 := by omega) (kt : h 98 22 = 2 → Wp mX12_soundHere (kR fr M1 M2) Q (b1, b2) 25 [zR 98] [] 137 h) (kf : ¬ h 98 22 = 2 → Wp mX12_soundHere (kR fr M1 M2) Q (b1, b2) 17 [zR 98] [] 137 h) : Wp mX12_soundHere (kR fr M1 M2) Q (b1, b2) 9 [zR 98] [] 137 h := by
  refine s_aload_n (x := 98) dX12_soundHere_9 rfl ?_
  refine s_get (c := 98) dX12_soundHere_10 lX12_166 e98 (by decide) ?_
  refine s_iconst dX12_soundHere_13 ?_
  exact s_icmp_eq (tgt := 25) dX12_soundHere_14 (by decide) r1 ⟨by decide, by decide⟩ kt kf
theorem bX12_soundHere_17 {fr M1 M2 b1 b2 : Nat} {Q : RS → Nat → AH → Prop} {h : AH} {R : AH → Prop}   (hS : Sp mX12_wrong true (fr - 1) 0 0 [zR 98, zI 1] 137 h (rV R)) (hf : 1 ≤ fr := by omega) (kk : ∀ h' : AH, R h' → Wp mX12_soundHere (kR fr M1 M2) Q (b1, b2) 22 [zR 98] [] 137 h') : Wp mX12_soundHere (kR fr M1 M2) Q (b1, b2) 17 [zR 98] [] 137 h := by
  refine s_aload_n (x := 98) dX12_soundHere_17 rfl ?_
  refine s_iconst dX12_soundHere_18 ?_
  exact s_callV (as := [zI 1]) (st := []) (o := 98) dX12_soundHere_19 kX12_197 rfl ⟨12, 87, TX12, e98, rfl, by decide⟩ rfl rfl (Nat.le_of_ble_eq_true rfl) hS (show fr - 1 + 1 ≤ fr by omega) (Nat.zero_le _) (Nat.zero_le _) (fun v n' h' hP _ => by obtain ⟨e, rfl, hR⟩ := hP; cases e; exact kk h' hR) (fun E n' h' _ z => (rV_nt _ _ _ z).elim)
theorem bX12_soundHere_22 {fr M1 M2 b1 b2 : Nat} {Q : RS → Nat → AH → Prop} {h : AH}   (kk : Wp mX12_soundHere (kR fr M1 M2) Q (b1, b2) 57 [zR 98] [] 137 h) : Wp mX12_soundHere (kR fr M1 M2) Q (b1, b2) 22 [zR 98] [] 137 h := by
  exact s_goto (tgt := 57) dX12_soundHere_22 (by decide) kk
theorem bX12_soundHere_25 {fr M1 M2 b1 b2 : Nat} {Q : RS → Nat → AH → Prop} {h : AH}  (r1 : -2147483648 ≤ h 98 24 ∧ h 98 24 < 2147483648 := by omega) (kt : h 98 24 ≤ 4 → Wp mX12_soundHere (kR fr M1 M2) Q (b1, b2) 41 [zR 98] [] 137 h) (kf : 4 < h 98 24 → Wp mX12_soundHere (kR fr M1 M2) Q (b1, b2) 33 [zR 98] [] 137 h) : Wp mX12_soundHere (kR fr M1 M2) Q (b1, b2) 25 [zR 98] [] 137 h := by
  refine s_aload_n (x := 98) dX12_soundHere_25 rfl ?_
  refine s_get (c := 98) dX12_soundHere_26 lX12_176 e98 (by decide) ?_
  refine s_iconst dX12_soundHere_29 ?_
  exact s_icmp_le (tgt := 41) dX12_soundHere_30 (by decide) r1 ⟨by decide, by decide⟩ kt kf
theorem bX12_soundHere_33 {fr M1 M2 b1 b2 : Nat} {Q : RS → Nat → AH → Prop} {h : AH} {R : AH → Prop}   (hS : Sp mX12_wrong true (fr - 1) 0 0 [zR 98, zI 2] 137 h (rV R)) (hf : 1 ≤ fr := by omega) (kk : ∀ h' : AH, R h' → Wp mX12_soundHere (kR fr M1 M2) Q (b1, b2) 38 [zR 98] [] 137 h') : Wp mX12_soundHere (kR fr M1 M2) Q (b1, b2) 33 [zR 98] [] 137 h := by
  refine s_aload_n (x := 98) dX12_soundHere_33 rfl ?_
  refine s_iconst dX12_soundHere_34 ?_
  exact s_callV (as := [zI 2]) (st := []) (o := 98) dX12_soundHere_35 kX12_197 rfl ⟨12, 87, TX12, e98, rfl, by decide⟩ rfl rfl (Nat.le_of_ble_eq_true rfl) hS (show fr - 1 + 1 ≤ fr by omega) (Nat.zero_le _) (Nat.zero_le _) (fun v n' h' hP _ => by obtain ⟨e, rfl, hR⟩ := hP; cases e; exact kk h' hR) (fun E n' h' _ z => (rV_nt _ _ _ z).elim)
theorem bX12_soundHere_38 {fr M1 M2 b1 b2 : Nat} {Q : RS → Nat → AH → Prop} {h : AH}   (kk : Wp mX12_soundHere (kR fr M1 M2) Q (b1, b2) 57 [zR 98] [] 137 h) : Wp mX12_soundHere (kR fr M1 M2) Q (b1, b2) 38 [zR 98] [] 137 h := by
  exact s_goto (tgt := 57) dX12_soundHere_38 (by decide) kk
theorem bX12_soundHere_41 {fr M1 M2 b1 b2 : Nat} {Q : RS → Nat → AH → Prop} {h : AH}  (r1 : -2147483648 ≤ h 98 25 ∧ h 98 25 < 2147483648 := by omega) (r2 : -2147483648 ≤ h 98 27 ∧ h 98 27 < 2147483648 := by omega) (kt : h 98 25 < h 98 27 → Wp mX12_soundHere (kR fr M1 M2) Q (b1, b2) 57 [zR 98] [] 137 h) (kf : h 98 27 ≤ h 98 25 → Wp mX12_soundHere (kR fr M1 M2) Q (b1, b2) 52 [zR 98] [] 137 h) : Wp mX12_soundHere (kR fr M1 M2) Q (b1, b2) 41 [zR 98] [] 137 h := by
  refine s_aload_n (x := 98) dX12_soundHere_41 rfl ?_
  refine s_get (c := 98) dX12_soundHere_42 lX12_163 e98 (by decide) ?_
  refine s_aload_n (x := 98) dX12_soundHere_45 rfl ?_
  refine s_get (c := 98) dX12_soundHere_46 lX12_200 e98 (by decide) ?_
  exact s_icmp_lt (tgt := 57) dX12_soundHere_49 (by decide) r1 r2 kt kf
theorem bX12_soundHere_52 {fr M1 M2 b1 b2 : Nat} {Q : RS → Nat → AH → Prop} {h : AH} {R : AH → Prop}   (hS : Sp mX12_wrong true (fr - 1) 0 0 [zR 98, zI 3] 137 h (rV R)) (hf : 1 ≤ fr := by omega) (kk : ∀ h' : AH, R h' → Wp mX12_soundHere (kR fr M1 M2) Q (b1, b2) 57 [zR 98] [] 137 h') : Wp mX12_soundHere (kR fr M1 M2) Q (b1, b2) 52 [zR 98] [] 137 h := by
  refine s_aload_n (x := 98) dX12_soundHere_52 rfl ?_
  refine s_iconst dX12_soundHere_53 ?_
  exact s_callV (as := [zI 3]) (st := []) (o := 98) dX12_soundHere_54 kX12_197 rfl ⟨12, 87, TX12, e98, rfl, by decide⟩ rfl rfl (Nat.le_of_ble_eq_true rfl) hS (show fr - 1 + 1 ≤ fr by omega) (Nat.zero_le _) (Nat.zero_le _) (fun v n' h' hP _ => by obtain ⟨e, rfl, hR⟩ := hP; cases e; exact kk h' hR) (fun E n' h' _ z => (rV_nt _ _ _ z).elim)
theorem bX12_soundHere_57 {fr M1 M2 b1 b2 : Nat} {Q : RS → Nat → AH → Prop} {h : AH} {R : Int → AH → Prop}   (hS : Sp mX12_isGood true (fr - 1) 0 0 [zR 98] 137 h (rI R)) (hf : 1 ≤ fr := by omega) (kk : ∀ (x : Int) (h' : AH), R x h' → Wp mX12_soundHere (kR fr M1 M2) Q (b1, b2) 61 [zR 98] [zI x] 137 h') : Wp mX12_soundHere (kR fr M1 M2) Q (b1, b2) 57 [zR 98] [] 137 h := by
  refine s_aload_n (x := 98) dX12_soundHere_57 rfl ?_
  exact s_callV (as := []) (st := []) (o := 98) dX12_soundHere_58 kX12_190 rfl ⟨12, 87, TX12, e98, rfl, by decide⟩ rfl rfl (Nat.le_of_ble_eq_true rfl) hS (show fr - 1 + 1 ≤ fr by omega) (Nat.zero_le _) (Nat.zero_le _) (fun v n' h' hP _ => by obtain ⟨x, e, rfl, hR⟩ := hP; cases e; exact kk x h' hR) (fun E n' h' _ z => (rI_nt _ _ _ z).elim)
theorem bX12_soundHere_61 {fr M1 M2 b1 b2 : Nat} {Q : RS → Nat → AH → Prop} {h : AH} {s0 : Int} {x0 : AV}  (r1 : s0 = 0 ∨ s0 = 1 := by omega) (hq : Q (.inl (some (zI s0))) 137 h) : Wp mX12_soundHere (kR fr M1 M2) Q (b1, b2) 61 [x0] [zI s0] 137 h := by
  refine s_fgt (fgt_n _ fgt_0) ?_
  exact s_ireturn dX12_soundHere_61 ⟨.boolean, rfl, bool_nar r1⟩ hq (fun z => by cases z)
theorem dX12_readsWall_0 : decode mX12_readsWall.cd 0 = .ok (.aload_n 0, 1) := by decide +kernel
theorem dX12_readsWall_1 : decode mX12_readsWall.cd 1 = .ok (.getfield 203, 3) := by decide +kernel
theorem dX12_readsWall_4 : decode mX12_readsWall.cd 4 = .ok (.bipush 6, 2) := by decide +kernel
theorem dX12_readsWall_6 : decode mX12_readsWall.cd 6 = .ok (.if_icmp .ne 8, 3) := by decide +kernel
theorem dX12_readsWall_9 : decode mX12_readsWall.cd 9 = .ok (.aload_n 0, 1) := by decide +kernel
theorem dX12_readsWall_10 : decode mX12_readsWall.cd 10 = .ok (.iconst 2, 1) := by decide +kernel
theorem dX12_readsWall_11 : decode mX12_readsWall.cd 11 = .ok (.invokevirtual 197, 3) := by decide +kernel
theorem dX12_readsWall_14 : decode mX12_readsWall.cd 14 = .ok (.aload_n 0, 1) := by decide +kernel
theorem dX12_readsWall_15 : decode mX12_readsWall.cd 15 = .ok (.invokevirtual 190, 3) := by decide +kernel
theorem dX12_readsWall_18 : decode mX12_readsWall.cd 18 = .ok (.ifCond .ne 4, 3) := by decide +kernel
theorem dX12_readsWall_21 : decode mX12_readsWall.cd 21 = .ok (.return_, 1) := by decide +kernel
theorem dX12_readsWall_22 : decode mX12_readsWall.cd 22 = .ok (.aload_n 0, 1) := by decide +kernel
theorem dX12_readsWall_23 : decode mX12_readsWall.cd 23 = .ok (.invokevirtual 194, 3) := by decide +kernel
theorem dX12_readsWall_26 : decode mX12_readsWall.cd 26 = .ok (.bipush 6, 2) := by decide +kernel
theorem dX12_readsWall_28 : decode mX12_readsWall.cd 28 = .ok (.aload_n 0, 1) := by decide +kernel
theorem dX12_readsWall_29 : decode mX12_readsWall.cd 29 = .ok (.getfield 203, 3) := by decide +kernel
theorem dX12_readsWall_32 : decode mX12_readsWall.cd 32 = .ok (.imul, 1) := by decide +kernel
theorem dX12_readsWall_33 : decode mX12_readsWall.cd 33 = .ok (.istore_n 1, 1) := by decide +kernel
theorem dX12_readsWall_34 : decode mX12_readsWall.cd 34 = .ok (.iconst 0, 1) := by decide +kernel
theorem dX12_readsWall_35 : decode mX12_readsWall.cd 35 = .ok (.istore_n 2, 1) := by decide +kernel
theorem dX12_readsWall_36 : decode mX12_readsWall.cd 36 = .ok (.iload_n 2, 1) := by decide +kernel
theorem dX12_readsWall_37 : decode mX12_readsWall.cd 37 = .ok (.iconst 3, 1) := by decide +kernel
theorem dX12_readsWall_38 : decode mX12_readsWall.cd 38 = .ok (.if_icmp .ge 24, 3) := by decide +kernel
theorem dX12_readsWall_41 : decode mX12_readsWall.cd 41 = .ok (.aload_n 0, 1) := by decide +kernel
theorem dX12_readsWall_42 : decode mX12_readsWall.cd 42 = .ok (.getfield 47, 3) := by decide +kernel
theorem dX12_readsWall_45 : decode mX12_readsWall.cd 45 = .ok (.iload_n 1, 1) := by decide +kernel
theorem dX12_readsWall_46 : decode mX12_readsWall.cd 46 = .ok (.iload_n 2, 1) := by decide +kernel
theorem dX12_readsWall_47 : decode mX12_readsWall.cd 47 = .ok (.iadd, 1) := by decide +kernel
theorem dX12_readsWall_48 : decode mX12_readsWall.cd 48 = .ok (.aload_n 0, 1) := by decide +kernel
theorem dX12_readsWall_49 : decode mX12_readsWall.cd 49 = .ok (.iconst 1, 1) := by decide +kernel
theorem dX12_readsWall_50 : decode mX12_readsWall.cd 50 = .ok (.bipush 40, 2) := by decide +kernel
theorem dX12_readsWall_52 : decode mX12_readsWall.cd 52 = .ok (.invokevirtual 206, 3) := by decide +kernel
theorem dX12_readsWall_55 : decode mX12_readsWall.cd 55 = .ok (.iastore, 1) := by decide +kernel
theorem dX12_readsWall_56 : decode mX12_readsWall.cd 56 = .ok (.iinc 2 1, 3) := by decide +kernel
theorem dX12_readsWall_59 : decode mX12_readsWall.cd 59 = .ok (.goto (-23), 3) := by decide +kernel
theorem dX12_readsWall_62 : decode mX12_readsWall.cd 62 = .ok (.aload_n 0, 1) := by decide +kernel
theorem dX12_readsWall_63 : decode mX12_readsWall.cd 63 = .ok (.getfield 47, 3) := by decide +kernel
theorem dX12_readsWall_66 : decode mX12_readsWall.cd 66 = .ok (.iload_n 1, 1) := by decide +kernel
theorem dX12_readsWall_67 : decode mX12_readsWall.cd 67 = .ok (.iconst 3, 1) := by decide +kernel
theorem dX12_readsWall_68 : decode mX12_readsWall.cd 68 = .ok (.iadd, 1) := by decide +kernel
theorem dX12_readsWall_69 : decode mX12_readsWall.cd 69 = .ok (.aload_n 0, 1) := by decide +kernel
theorem dX12_readsWall_70 : decode mX12_readsWall.cd 70 = .ok (.iconst 0, 1) := by decide +kernel
theorem dX12_readsWall_71 : decode mX12_readsWall.cd 71 = .ok (.bipush 100, 2) := by decide +kernel
theorem dX12_readsWall_73 : decode mX12_readsWall.cd 73 = .ok (.invokevirtual 206, 3) := by decide +kernel
theorem dX12_readsWall_76 : decode mX12_readsWall.cd 76 = .ok (.iastore, 1) := by decide +kernel
theorem dX12_readsWall_77 : decode mX12_readsWall.cd 77 = .ok (.aload_n 0, 1) := by decide +kernel
theorem dX12_readsWall_78 : decode mX12_readsWall.cd 78 = .ok (.getfield 47, 3) := by decide +kernel
theorem dX12_readsWall_81 : decode mX12_readsWall.cd 81 = .ok (.iload_n 1, 1) := by decide +kernel
theorem dX12_readsWall_82 : decode mX12_readsWall.cd 82 = .ok (.iconst 4, 1) := by decide +kernel
theorem dX12_readsWall_83 : decode mX12_readsWall.cd 83 = .ok (.iadd, 1) := by decide +kernel
theorem dX12_readsWall_84 : decode mX12_readsWall.cd 84 = .ok (.iconst 0, 1) := by decide +kernel
theorem dX12_readsWall_85 : decode mX12_readsWall.cd 85 = .ok (.iastore, 1) := by decide +kernel
theorem dX12_readsWall_86 : decode mX12_readsWall.cd 86 = .ok (.aload_n 0, 1) := by decide +kernel
theorem dX12_readsWall_87 : decode mX12_readsWall.cd 87 = .ok (.getfield 47, 3) := by decide +kernel
theorem dX12_readsWall_90 : decode mX12_readsWall.cd 90 = .ok (.iload_n 1, 1) := by decide +kernel
theorem dX12_readsWall_91 : decode mX12_readsWall.cd 91 = .ok (.iconst 5, 1) := by decide +kernel
theorem dX12_readsWall_92 : decode mX12_readsWall.cd 92 = .ok (.iadd, 1) := by decide +kernel
theorem dX12_readsWall_93 : decode mX12_readsWall.cd 93 = .ok (.iconst 1, 1) := by decide +kernel
theorem dX12_readsWall_94 : decode mX12_readsWall.cd 94 = .ok (.iastore, 1) := by decide +kernel
theorem dX12_readsWall_95 : decode mX12_readsWall.cd 95 = .ok (.aload_n 0, 1) := by decide +kernel
theorem dX12_readsWall_96 : decode mX12_readsWall.cd 96 = .ok (.invokevirtual 190, 3) := by decide +kernel
theorem dX12_readsWall_99 : decode mX12_readsWall.cd 99 = .ok (.ifCond .eq 129, 3) := by decide +kernel
theorem dX12_readsWall_102 : decode mX12_readsWall.cd 102 = .ok (.aload_n 0, 1) := by decide +kernel
theorem dX12_readsWall_103 : decode mX12_readsWall.cd 103 = .ok (.bipush 8, 2) := by decide +kernel
theorem dX12_readsWall_105 : decode mX12_readsWall.cd 105 = .ok (.invokevirtual 210, 3) := by decide +kernel
theorem dX12_readsWall_108 : decode mX12_readsWall.cd 108 = .ok (.ifCond .eq 120, 3) := by decide +kernel
theorem dX12_readsWall_111 : decode mX12_readsWall.cd 111 = .ok (.aload_n 0, 1) := by decide +kernel
theorem dX12_readsWall_112 : decode mX12_readsWall.cd 112 = .ok (.invokevirtual 194, 3) := by decide +kernel
theorem dX12_readsWall_115 : decode mX12_readsWall.cd 115 = .ok (.iconst 1, 1) := by decide +kernel
theorem dX12_readsWall_116 : decode mX12_readsWall.cd 116 = .ok (.istore_n 2, 1) := by decide +kernel
theorem dX12_readsWall_117 : decode mX12_readsWall.cd 117 = .ok (.iload_n 2, 1) := by decide +kernel
theorem dX12_readsWall_118 : decode mX12_readsWall.cd 118 = .ok (.ifCond .eq 110, 3) := by decide +kernel
theorem dX12_readsWall_121 : decode mX12_readsWall.cd 121 = .ok (.aload_n 0, 1) := by decide +kernel
theorem dX12_readsWall_122 : decode mX12_readsWall.cd 122 = .ok (.invokevirtual 190, 3) := by decide +kernel
theorem dX12_readsWall_125 : decode mX12_readsWall.cd 125 = .ok (.ifCond .eq 51, 3) := by decide +kernel
theorem dX12_readsWall_128 : decode mX12_readsWall.cd 128 = .ok (.aload_n 0, 1) := by decide +kernel
theorem dX12_readsWall_129 : decode mX12_readsWall.cd 129 = .ok (.getfield 166, 3) := by decide +kernel
theorem dX12_readsWall_132 : decode mX12_readsWall.cd 132 = .ok (.iconst 2, 1) := by decide +kernel
theorem dX12_readsWall_133 : decode mX12_readsWall.cd 133 = .ok (.if_icmp .ne 43, 3) := by decide +kernel
theorem dX12_readsWall_136 : decode mX12_readsWall.cd 136 = .ok (.aload_n 0, 1) := by decide +kernel
theorem dX12_readsWall_137 : decode mX12_readsWall.cd 137 = .ok (.getfield 176, 3) := by decide +kernel
theorem dX12_readsWall_140 : decode mX12_readsWall.cd 140 = .ok (.iconst 4, 1) := by decide +kernel
theorem dX12_readsWall_141 : decode mX12_readsWall.cd 141 = .ok (.if_icmp .gt 35, 3) := by decide +kernel
theorem dX12_readsWall_144 : decode mX12_readsWall.cd 144 = .ok (.aload_n 0, 1) := by decide +kernel
theorem dX12_readsWall_145 : decode mX12_readsWall.cd 145 = .ok (.getfield 163, 3) := by decide +kernel
theorem dX12_readsWall_148 : decode mX12_readsWall.cd 148 = .ok (.iconst 3, 1) := by decide +kernel
theorem dX12_readsWall_149 : decode mX12_readsWall.cd 149 = .ok (.if_icmp .gt 27, 3) := by decide +kernel
theorem dX12_readsWall_152 : decode mX12_readsWall.cd 152 = .ok (.aload_n 0, 1) := by decide +kernel
theorem dX12_readsWall_153 : decode mX12_readsWall.cd 153 = .ok (.getfield 47, 3) := by decide +kernel
theorem dX12_readsWall_156 : decode mX12_readsWall.cd 156 = .ok (.iload_n 1, 1) := by decide +kernel
theorem dX12_readsWall_157 : decode mX12_readsWall.cd 157 = .ok (.iconst 4, 1) := by decide +kernel
theorem dX12_readsWall_158 : decode mX12_readsWall.cd 158 = .ok (.iadd, 1) := by decide +kernel
theorem dX12_readsWall_159 : decode mX12_readsWall.cd 159 = .ok (.iaload, 1) := by decide +kernel
theorem dX12_readsWall_160 : decode mX12_readsWall.cd 160 = .ok (.aload_n 0, 1) := by decide +kernel
theorem dX12_readsWall_161 : decode mX12_readsWall.cd 161 = .ok (.getfield 163, 3) := by decide +kernel
theorem dX12_readsWall_164 : decode mX12_readsWall.cd 164 = .ok (.ishr, 1) := by decide +kernel
theorem dX12_readsWall_165 : decode mX12_readsWall.cd 165 = .ok (.iconst 1, 1) := by decide +kernel
theorem dX12_readsWall_166 : decode mX12_readsWall.cd 166 = .ok (.iand, 1) := by decide +kernel
theorem dX12_readsWall_167 : decode mX12_readsWall.cd 167 = .ok (.iconst 1, 1) := by decide +kernel
theorem dX12_readsWall_168 : decode mX12_readsWall.cd 168 = .ok (.if_icmp .ne 8, 3) := by decide +kernel
theorem dX12_readsWall_171 : decode mX12_readsWall.cd 171 = .ok (.aload_n 0, 1) := by decide +kernel
theorem dX12_readsWall_172 : decode mX12_readsWall.cd 172 = .ok (.iconst 4, 1) := by decide +kernel
theorem dX12_readsWall_173 : decode mX12_readsWall.cd 173 = .ok (.invokevirtual 197, 3) := by decide +kernel
theorem dX12_readsWall_176 : decode mX12_readsWall.cd 176 = .ok (.aload_n 0, 1) := by decide +kernel
theorem dX12_readsWall_177 : decode mX12_readsWall.cd 177 = .ok (.iconst 0, 1) := by decide +kernel
theorem dX12_readsWall_178 : decode mX12_readsWall.cd 178 = .ok (.iconst 3, 1) := by decide +kernel
theorem dX12_readsWall_179 : decode mX12_readsWall.cd 179 = .ok (.invokevirtual 206, 3) := by decide +kernel
theorem dX12_readsWall_182 : decode mX12_readsWall.cd 182 = .ok (.istore_n 3, 1) := by decide +kernel
theorem dX12_readsWall_183 : decode mX12_readsWall.cd 183 = .ok (.aload_n 0, 1) := by decide +kernel
theorem dX12_readsWall_184 : decode mX12_readsWall.cd 184 = .ok (.invokevirtual 190, 3) := by decide +kernel
theorem dX12_readsWall_187 : decode mX12_readsWall.cd 187 = .ok (.ifCond .eq 17, 3) := by decide +kernel
theorem dX12_readsWall_190 : decode mX12_readsWall.cd 190 = .ok (.aload_n 0, 1) := by decide +kernel
theorem dX12_readsWall_191 : decode mX12_readsWall.cd 191 = .ok (.getfield 47, 3) := by decide +kernel
theorem dX12_readsWall_194 : decode mX12_readsWall.cd 194 = .ok (.iload_n 1, 1) := by decide +kernel
theorem dX12_readsWall_195 : decode mX12_readsWall.cd 195 = .ok (.iconst 4, 1) := by decide +kernel
theorem dX12_readsWall_196 : decode mX12_readsWall.cd 196 = .ok (.iadd, 1) := by decide +kernel
theorem dX12_readsWall_197 : decode mX12_readsWall.cd 197 = .ok (.dup2, 1) := by decide +kernel
theorem dX12_readsWall_198 : decode mX12_readsWall.cd 198 = .ok (.iaload, 1) := by decide +kernel
theorem dX12_readsWall_199 : decode mX12_readsWall.cd 199 = .ok (.iconst 1, 1) := by decide +kernel
theorem dX12_readsWall_200 : decode mX12_readsWall.cd 200 = .ok (.iload_n 3, 1) := by decide +kernel
theorem dX12_readsWall_201 : decode mX12_readsWall.cd 201 = .ok (.ishl, 1) := by decide +kernel
theorem dX12_readsWall_202 : decode mX12_readsWall.cd 202 = .ok (.ior, 1) := by decide +kernel
theorem dX12_readsWall_203 : decode mX12_readsWall.cd 203 = .ok (.iastore, 1) := by decide +kernel
theorem dX12_readsWall_204 : decode mX12_readsWall.cd 204 = .ok (.aload_n 0, 1) := by decide +kernel
theorem dX12_readsWall_205 : decode mX12_readsWall.cd 205 = .ok (.invokevirtual 190, 3) := by decide +kernel
theorem dX12_readsWall_208 : decode mX12_readsWall.cd 208 = .ok (.ifCond .eq 15, 3) := by decide +kernel
theorem dX12_readsWall_211 : decode mX12_readsWall.cd 211 = .ok (.aload_n 0, 1) := by decide +kernel
theorem dX12_readsWall_212 : decode mX12_readsWall.cd 212 = .ok (.getfield 166, 3) := by decide +kernel
theorem dX12_readsWall_215 : decode mX12_readsWall.cd 215 = .ok (.iconst 2, 1) := by decide +kernel
theorem dX12_readsWall_216 : decode mX12_readsWall.cd 216 = .ok (.if_icmp .ne 7, 3) := by decide +kernel
theorem dX12_readsWall_219 : decode mX12_readsWall.cd 219 = .ok (.iconst 1, 1) := by decide +kernel
theorem dX12_readsWall_220 : decode mX12_readsWall.cd 220 = .ok (.goto 4, 3) := by decide +kernel
theorem dX12_readsWall_223 : decode mX12_readsWall.cd 223 = .ok (.iconst 0, 1) := by decide +kernel
theorem dX12_readsWall_224 : decode mX12_readsWall.cd 224 = .ok (.istore_n 2, 1) := by decide +kernel
theorem dX12_readsWall_225 : decode mX12_readsWall.cd 225 = .ok (.goto (-108), 3) := by decide +kernel
theorem dX12_readsWall_228 : decode mX12_readsWall.cd 228 = .ok (.aload_n 0, 1) := by decide +kernel
theorem dX12_readsWall_229 : decode mX12_readsWall.cd 229 = .ok (.invokevirtual 190, 3) := by decide +kernel
theorem dX12_readsWall_232 : decode mX12_readsWall.cd 232 = .ok (.ifCond .eq 30, 3) := by decide +kernel
theorem dX12_readsWall_235 : decode mX12_readsWall.cd 235 = .ok (.aload_n 0, 1) := by decide +kernel
theorem dX12_readsWall_236 : decode mX12_readsWall.cd 236 = .ok (.bipush 9, 2) := by decide +kernel
theorem dX12_readsWall_238 : decode mX12_readsWall.cd 238 = .ok (.invokevirtual 210, 3) := by decide +kernel
theorem dX12_readsWall_241 : decode mX12_readsWall.cd 241 = .ok (.ifCond .eq 21, 3) := by decide +kernel
theorem dX12_readsWall_244 : decode mX12_readsWall.cd 244 = .ok (.aload_n 0, 1) := by decide +kernel
theorem dX12_readsWall_245 : decode mX12_readsWall.cd 245 = .ok (.invokevirtual 194, 3) := by decide +kernel
theorem dX12_readsWall_248 : decode mX12_readsWall.cd 248 = .ok (.aload_n 0, 1) := by decide +kernel
theorem dX12_readsWall_249 : decode mX12_readsWall.cd 249 = .ok (.getfield 47, 3) := by decide +kernel
theorem dX12_readsWall_252 : decode mX12_readsWall.cd 252 = .ok (.iload_n 1, 1) := by decide +kernel
theorem dX12_readsWall_253 : decode mX12_readsWall.cd 253 = .ok (.iconst 5, 1) := by decide +kernel
theorem dX12_readsWall_254 : decode mX12_readsWall.cd 254 = .ok (.iadd, 1) := by decide +kernel
theorem dX12_readsWall_255 : decode mX12_readsWall.cd 255 = .ok (.aload_n 0, 1) := by decide +kernel
theorem dX12_readsWall_256 : decode mX12_readsWall.cd 256 = .ok (.iconst 1, 1) := by decide +kernel
theorem dX12_readsWall_257 : decode mX12_readsWall.cd 257 = .ok (.iconst 3, 1) := by decide +kernel
theorem dX12_readsWall_258 : decode mX12_readsWall.cd 258 = .ok (.invokevirtual 206, 3) := by decide +kernel
theorem dX12_readsWall_261 : decode mX12_readsWall.cd 261 = .ok (.iastore, 1) := by decide +kernel
theorem dX12_readsWall_262 : decode mX12_readsWall.cd 262 = .ok (.aload_n 0, 1) := by decide +kernel
theorem dX12_readsWall_263 : decode mX12_readsWall.cd 263 = .ok (.invokevirtual 190, 3) := by decide +kernel
theorem dX12_readsWall_266 : decode mX12_readsWall.cd 266 = .ok (.ifCond .eq 13, 3) := by decide +kernel
theorem dX12_readsWall_269 : decode mX12_readsWall.cd 269 = .ok (.aload_n 0, 1) := by decide +kernel
theorem dX12_readsWall_270 : decode mX12_readsWall.cd 270 = .ok (.dup, 1) := by decide +kernel
theorem dX12_readsWall_271 : decode mX12_readsWall.cd 271 = .ok (.getfield 203, 3) := by decide +kernel
theorem dX12_readsWall_274 : decode mX12_readsWall.cd 274 = .ok (.iconst 1, 1) := by decide +kernel
theorem dX12_readsWall_275 : decode mX12_readsWall.cd 275 = .ok (.iadd, 1) := by decide +kernel
theorem dX12_readsWall_276 : decode mX12_readsWall.cd 276 = .ok (.putfield 203, 3) := by decide +kernel
theorem dX12_readsWall_279 : decode mX12_readsWall.cd 279 = .ok (.return_, 1) := by decide +kernel
theorem bX12_readsWall_0 {fr M1 M2 b1 b2 : Nat} {Q : RS → Nat → AH → Prop} {h : AH} {x1 x2 x3 : AV}  (r1 : -2147483648 ≤ h 98 28 ∧ h 98 28 < 2147483648 := by omega) (kt : ¬ h 98 28 = 6 → Wp mX12_readsWall (kR fr M1 M2) Q (b1, b2) 14 [zR 98, none, none, none] [] 137 h) (kf : h 98 28 = 6 → Wp mX12_readsWall (kR fr M1 M2) Q (b1, b2) 9 [zR 98, none, none, none] [] 137 h) : Wp mX12_readsWall (kR fr M1 M2) Q (b1, b2) 0 [zR 98, x1, x2, x3] [] 137 h := by
  refine s_fgt (fgt_c (fgt_n _ (fgt_n _ (fgt_n _ fgt_0)))) ?_
  refine s_aload_n (x := 98) dX12_readsWall_0 rfl ?_
  refine s_get (c := 98) dX12_readsWall_1 lX12_203 e98 (by decide) ?_
  refine s_bipush dX12_readsWall_4 (by decide) ?_
  exact s_icmp_ne (tgt := 14) dX12_readsWall_6 (by decide) r1 ⟨by decide, by decide⟩ kt kf
theorem bX12_readsWall_9 {fr M1 M2 b1 b2 : Nat} {Q : RS → Nat → AH → Prop} {h : AH} {x1 x2 x3 : AV} {R : AH → Prop}   (hS : Sp mX12_wrong true (fr - 1) 0 0 [zR 98, zI 2] 137 h (rV R)) (hf : 1 ≤ fr := by omega) (kk : ∀ h' : AH, R h' → Wp mX12_readsWall (kR fr M1 M2) Q (b1, b2) 14 [zR 98, none, none, none] [] 137 h') : Wp mX12_readsWall (kR fr M1 M2) Q (b1, b2) 9 [zR 98, x1, x2, x3] [] 137 h := by
  refine s_fgt (fgt_c (fgt_n _ (fgt_n _ (fgt_n _ fgt_0)))) ?_
  refine s_aload_n (x := 98) dX12_readsWall_9 rfl ?_
  refine s_iconst dX12_readsWall_10 ?_
  exact s_callV (as := [zI 2]) (st := []) (o := 98) dX12_readsWall_11 kX12_197 rfl ⟨12, 87, TX12, e98, rfl, by decide⟩ rfl rfl (Nat.le_of_ble_eq_true rfl) hS (show fr - 1 + 1 ≤ fr by omega) (Nat.zero_le _) (Nat.zero_le _) (fun v n' h' hP _ => by obtain ⟨e, rfl, hR⟩ := hP; cases e; exact kk h' hR) (fun E n' h' _ z => (rV_nt _ _ _ z).elim)
theorem bX12_readsWall_14 {fr M1 M2 b1 b2 : Nat} {Q : RS → Nat → AH → Prop} {h : AH} {x1 x2 x3 : AV} {R : Int → AH → Prop}   (hS : Sp mX12_isGood true (fr - 1) 0 0 [zR 98] 137 h (rI R)) (hf : 1 ≤ fr := by omega) (kk : ∀ (x : Int) (h' : AH), R x h' → Wp mX12_readsWall (kR fr M1 M2) Q (b1, b2) 18 [zR 98, none, none, none] [zI x] 137 h') : Wp mX12_readsWall (kR fr M1 M2) Q (b1, b2) 14 [zR 98, x1, x2, x3] [] 137 h := by
  refine s_fgt (fgt_c (fgt_n _ (fgt_n _ (fgt_n _ fgt_0)))) ?_
  refine s_aload_n (x := 98) dX12_readsWall_14 rfl ?_
  exact s_callV (as := []) (st := []) (o := 98) dX12_readsWall_15 kX12_190 rfl ⟨12, 87, TX12, e98, rfl, by decide⟩ rfl rfl (Nat.le_of_ble_eq_true rfl) hS (show fr - 1 + 1 ≤ fr by omega) (Nat.zero_le _) (Nat.zero_le _) (fun v n' h' hP _ => by obtain ⟨x, e, rfl, hR⟩ := hP; cases e; exact kk x h' hR) (fun E n' h' _ z => (rI_nt _ _ _ z).elim)
theorem bX12_readsWall_18 {fr M1 M2 b1 b2 : Nat} {Q : RS → Nat → AH → Prop} {h : AH} {s0 : Int} {x1 x2 x3 : AV}  (r1 : -2147483648 ≤ s0 ∧ s0 < 2147483648 := by omega) (kt : ¬ s0 = 0 → Wp mX12_readsWall (kR fr M1 M2) Q (b1, b2) 22 [zR 98, none, none, none] [] 137 h) (kf : s0 = 0 → Wp mX12_readsWall (kR fr M1 M2) Q (b1, b2) 21 [zR 98, none, none, none] [] 137 h) : Wp mX12_readsWall (kR fr M1 M2) Q (b1, b2) 18 [zR 98, x1, x2, x3] [zI s0] 137 h := by
  refine s_fgt (fgt_c (fgt_n _ (fgt_n _ (fgt_n _ fgt_0)))) ?_
  exact s_if_ne (tgt := 22) dX12_readsWall_18 (by decide) r1 kt kf
theorem bX12_readsWall_21 {fr M1 M2 b1 b2 : Nat} {Q : RS → Nat → AH → Prop} {h : AH} {x0 x1 x2 x3 : AV}   (hq : Q (.inl none) 137 h) : Wp mX12_readsWall (kR fr M1 M2) Q (b1, b2) 21 [x0, x1, x2, x3] [] 137 h := by
  refine s_fgt (fgt_n _ (fgt_n _ (fgt_n _ (fgt_n _ fgt_0)))) ?_
  exact s_return dX12_readsWall_21 rfl hq (fun z => by cases z)
theorem bX12_readsWall_22 {fr M1 M2 b1 b2 : Nat} {Q : RS → Nat → AH → Prop} {h : AH} {x1 x2 x3 : AV} {R : AH → Prop}   (hS : Sp mX12_steps true (fr - 1) 0 0 [zR 98] 137 h (rV R)) (hf : 1 ≤ fr := by omega) (kk : ∀ h' : AH, R h' → Wp mX12_readsWall (kR fr M1 M2) Q (b1, b2) 26 [zR 98, none, none, none] [] 137 h') : Wp mX12_readsWall (kR fr M1 M2) Q (b1, b2) 22 [zR 98, x1, x2, x3] [] 137 h := by
  refine s_fgt (fgt_c (fgt_n _ (fgt_n _ (fgt_n _ fgt_0)))) ?_
  refine s_aload_n (x := 98) dX12_readsWall_22 rfl ?_
  exact s_callV (as := []) (st := []) (o := 98) dX12_readsWall_23 kX12_194 rfl ⟨12, 87, TX12, e98, rfl, by decide⟩ rfl rfl (Nat.le_of_ble_eq_true rfl) hS (show fr - 1 + 1 ≤ fr by omega) (Nat.zero_le _) (Nat.zero_le _) (fun v n' h' hP _ => by obtain ⟨e, rfl, hR⟩ := hP; cases e; exact kk h' hR) (fun E n' h' _ z => (rV_nt _ _ _ z).elim)
theorem bX12_readsWall_26 {fr M1 M2 b1 b2 : Nat} {Q : RS → Nat → AH → Prop} {h : AH} {x1 x2 x3 : AV}   (kk : Wp mX12_readsWall (kR fr M1 M2) Q (b1, b2) 36 [zR 98, zI (6 * (h 98 28)), zI 0, none] [] 137 h) : Wp mX12_readsWall (kR fr M1 M2) Q (b1, b2) 26 [zR 98, x1, x2, x3] [] 137 h := by
  refine s_fgt (fgt_c (fgt_n _ (fgt_n _ (fgt_n _ fgt_0)))) ?_
  refine s_bipush dX12_readsWall_26 (by decide) ?_
  refine s_aload_n (x := 98) dX12_readsWall_28 rfl ?_
  refine s_get (c := 98) dX12_readsWall_29 lX12_203 e98 (by decide) ?_
  refine s_imul dX12_readsWall_32 ?_
  refine s_istore_n dX12_readsWall_33 rfl (by decide) ?_
  refine s_iconst dX12_readsWall_34 ?_
  refine s_istore_n dX12_readsWall_35 rfl (by decide) ?_
  exact kk
theorem bX12_readsWall_36 {fr M1 M2 b1 b2 : Nat} {Q : RS → Nat → AH → Prop} {h : AH} {l1 l2 : Int} {x3 : AV}  (r1 : -2147483648 ≤ l2 ∧ l2 < 2147483648 := by omega) (kt : 3 ≤ l2 → Wp mX12_readsWall (kR fr M1 M2) Q (b1, b2) 62 [zR 98, zI l1, zI l2, none] [] 137 h) (kf : l2 < 3 → Wp mX12_readsWall (kR fr M1 M2) Q (b1, b2) 41 [zR 98, zI l1, zI l2, none] [] 137 h) : Wp mX12_readsWall (kR fr M1 M2) Q (b1, b2) 36 [zR 98, zI l1, zI l2, x3] [] 137 h := by
  refine s_fgt (fgt_c (fgt_c (fgt_c (fgt_n _ fgt_0)))) ?_
  refine s_iload_n (x := l2) dX12_readsWall_36 rfl ?_
  refine s_iconst dX12_readsWall_37 ?_
  exact s_icmp_ge (tgt := 62) dX12_readsWall_38 (by decide) r1 ⟨by decide, by decide⟩ kt kf
theorem bX12_readsWall_41 {fr M1 M2 b1 b2 : Nat} {Q : RS → Nat → AH → Prop} {h : AH} {l1 l2 : Int} {x3 : AV} {R : Int → AH → Prop}   (hS : Sp mX12_number true (fr - 1) 0 0 [zR 98, zI 1, zI 40] 137 h (rI R)) (hf : 1 ≤ fr := by omega) (kk : ∀ (x : Int) (h' : AH), R x h' → Wp mX12_readsWall (kR fr M1 M2) Q (b1, b2) 55 [zR 98, zI l1, zI l2, none] [zI x, zI (l1 + l2), zR 109] 137 h') : Wp mX12_readsWall (kR fr M1 M2) Q (b1, b2) 41 [zR 98, zI l1, zI l2, x3] [] 137 h := by
  refine s_fgt (fgt_c (fgt_c (fgt_c (fgt_n _ fgt_0)))) ?_
  refine s_aload_n (x := 98) dX12_readsWall_41 rfl ?_
  refine s_getFd (c := 98) (d := 109) dX12_readsWall_42 lX12_47 e98 (Or.inl rfl) (by decide) (by decide) ?_
  refine s_iload_n (x := l1) dX12_readsWall_45 rfl ?_
  refine s_iload_n (x := l2) dX12_readsWall_46 rfl ?_
  refine s_iadd dX12_readsWall_47 ?_
  refine s_aload_n (x := 98) dX12_readsWall_48 rfl ?_
  refine s_iconst dX12_readsWall_49 ?_
  refine s_bipush dX12_readsWall_50 (by decide) ?_
  exact s_callV (as := [zI 1, zI 40]) (st := [zI (l1 + l2), zR 109]) (o := 98) dX12_readsWall_52 kX12_206 rfl ⟨12, 87, TX12, e98, rfl, by decide⟩ rfl rfl (Nat.le_of_ble_eq_true rfl) hS (show fr - 1 + 1 ≤ fr by omega) (Nat.zero_le _) (Nat.zero_le _) (fun v n' h' hP _ => by obtain ⟨x, e, rfl, hR⟩ := hP; cases e; exact kk x h' hR) (fun E n' h' _ z => (rI_nt _ _ _ z).elim)
theorem bX12_readsWall_55 {fr M1 M2 b1 b2 : Nat} {Q : RS → Nat → AH → Prop} {h : AH} {l1 l2 s2 s1 s0 : Int} {N1 : Nat} {x3 : AV} (c1 : cel 137 s2 (100, N1) := by first | assumption | omega) (r1 : 0 ≤ s1 ∧ s1 < N1 := by omega) (kk : Wp mX12_readsWall (kR fr M1 M2) Q (b1, b2) 36 [zR 98, zI l1, zI (l2 + 1), none] [] 137 (up h s2 s1 s0)) : Wp mX12_readsWall (kR fr M1 M2) Q (b1, b2) 55 [zR 98, zI l1, zI l2, x3] [zI s0, zI s1, zR s2] 137 h := by
  refine s_fgt (fgt_c (fgt_c (fgt_c (fgt_n _ fgt_0)))) ?_
  refine s_iast (c := s2) (i := s1) dX12_readsWall_55 c1 r1.1 r1.2 ?_
  refine s_iinc (x := l2) dX12_readsWall_56 rfl rfl (by decide) ?_
  exact s_goto (tgt := 36) dX12_readsWall_59 (by decide) kk
theorem bX12_readsWall_62 {fr M1 M2 b1 b2 : Nat} {Q : RS → Nat → AH → Prop} {h : AH} {l1 : Int} {x2 x3 : AV} {R : Int → AH → Prop}   (hS : Sp mX12_number true (fr - 1) 0 0 [zR 98, zI 0, zI 100] 137 h (rI R)) (hf : 1 ≤ fr := by omega) (kk : ∀ (x : Int) (h' : AH), R x h' → Wp mX12_readsWall (kR fr M1 M2) Q (b1, b2) 76 [zR 98, zI l1, none, none] [zI x, zI (l1 + 3), zR 109] 137 h') : Wp mX12_readsWall (kR fr M1 M2) Q (b1, b2) 62 [zR 98, zI l1, x2, x3] [] 137 h := by
  refine s_fgt (fgt_c (fgt_c (fgt_n _ (fgt_n _ fgt_0)))) ?_
  refine s_aload_n (x := 98) dX12_readsWall_62 rfl ?_
  refine s_getFd (c := 98) (d := 109) dX12_readsWall_63 lX12_47 e98 (Or.inl rfl) (by decide) (by decide) ?_
  refine s_iload_n (x := l1) dX12_readsWall_66 rfl ?_
  refine s_iconst dX12_readsWall_67 ?_
  refine s_iadd dX12_readsWall_68 ?_
  refine s_aload_n (x := 98) dX12_readsWall_69 rfl ?_
  refine s_iconst dX12_readsWall_70 ?_
  refine s_bipush dX12_readsWall_71 (by decide) ?_
  exact s_callV (as := [zI 0, zI 100]) (st := [zI (l1 + 3), zR 109]) (o := 98) dX12_readsWall_73 kX12_206 rfl ⟨12, 87, TX12, e98, rfl, by decide⟩ rfl rfl (Nat.le_of_ble_eq_true rfl) hS (show fr - 1 + 1 ≤ fr by omega) (Nat.zero_le _) (Nat.zero_le _) (fun v n' h' hP _ => by obtain ⟨x, e, rfl, hR⟩ := hP; cases e; exact kk x h' hR) (fun E n' h' _ z => (rI_nt _ _ _ z).elim)
theorem bX12_readsWall_76 {fr M1 M2 b1 b2 : Nat} {Q : RS → Nat → AH → Prop} {h : AH} {l1 s2 s1 s0 : Int} {N1 : Nat} {x2 x3 : AV} {R : Int → AH → Prop} (c1 : cel 137 s2 (100, N1) := by first | assumption | omega) (r1 : 0 ≤ s1 ∧ s1 < N1 := by omega) (r2 : 0 ≤ l1 + 4 ∧ l1 + 4 < 36 := by omega) (r3 : 0 ≤ l1 + 5 ∧ l1 + 5 < 36 := by omega) (hS : Sp mX12_isGood true (fr - 1) 0 0 [zR 98] 137 (up (up (up h s2 s1 s0) 109 (l1 + 4) 0) 109 (l1 + 5) 1) (rI R)) (hf : 1 ≤ fr := by omega) (kk : ∀ (x : Int) (h' : AH), R x h' → Wp mX12_readsWall (kR fr M1 M2) Q (b1, b2) 99 [zR 98, zI l1, none, none] [zI x] 137 h') : Wp mX12_readsWall (kR fr M1 M2) Q (b1, b2) 76 [zR 98, zI l1, x2, x3] [zI s0, zI s1, zR s2] 137 h := by
  refine s_fgt (fgt_c (fgt_c (fgt_n _ (fgt_n _ fgt_0)))) ?_
  refine s_iast (c := s2) (i := s1) dX12_readsWall_76 c1 r1.1 r1.2 ?_
  refine s_aload_n (x := 98) dX12_readsWall_77 rfl ?_
  refine s_getFd (c := 98) (d := 109) dX12_readsWall_78 lX12_47 e98 (Or.inl rfl) (by decide) (by decide) ?_
  refine s_iload_n (x := l1) dX12_readsWall_81 rfl ?_
  refine s_iconst dX12_readsWall_82 ?_
  refine s_iadd dX12_readsWall_83 ?_
  refine s_iconst dX12_readsWall_84 ?_
  refine s_iast (c := 109) (i := l1 + 4) dX12_readsWall_85 e109 r2.1 r2.2 ?_
  refine s_aload_n (x := 98) dX12_readsWall_86 rfl ?_
  refine s_getFd (c := 98) (d := 109) dX12_readsWall_87 lX12_47 e98 (Or.inl rfl) (by decide) (by decide) ?_
  refine s_iload_n (x := l1) dX12_readsWall_90 rfl ?_
  refine s_iconst dX12_readsWall_91 ?_
  refine s_iadd dX12_readsWall_92 ?_
  refine s_iconst dX12_readsWall_93 ?_
  refine s_iast (c := 109) (i := l1 + 5) dX12_readsWall_94 e109 r3.1 r3.2 ?_
  refine s_aload_n (x := 98) dX12_readsWall_95 rfl ?_
  exact s_callV (as := []) (st := []) (o := 98) dX12_readsWall_96 kX12_190 rfl ⟨12, 87, TX12, e98, rfl, by decide⟩ rfl rfl (Nat.le_of_ble_eq_true rfl) hS (show fr - 1 + 1 ≤ fr by omega) (Nat.zero_le _) (Nat.zero_le _) (fun v n' h' hP _ => by obtain ⟨x, e, rfl, hR⟩ := hP; cases e; exact kk x h' hR) (fun E n' h' _ z => (rI_nt _ _ _ z).elim)
theorem bX12_readsWall_99 {fr M1 M2 b1 b2 : Nat} {Q : RS → Nat → AH → Prop} {h : AH} {l1 s0 : Int} {x2 x3 : AV}  (r1 : -2147483648 ≤ s0 ∧ s0 < 2147483648 := by omega) (kt : s0 = 0 → Wp mX12_readsWall (kR fr M1 M2) Q (b1, b2) 228 [zR 98, zI l1, none, none] [] 137 h) (kf : ¬ s0 = 0 → Wp mX12_readsWall (kR fr M1 M2) Q (b1, b2) 102 [zR 98, zI l1, none, none] [] 137 h) : Wp mX12_readsWall (kR fr M1 M2) Q (b1, b2) 99 [zR 98, zI l1, x2, x3] [zI s0] 137 h := by
  refine s_fgt (fgt_c (fgt_c (fgt_n _ (fgt_n _ fgt_0)))) ?_
  exact s_if_eq (tgt := 228) dX12_readsWall_99 (by decide) r1 kt kf
theorem bX12_readsWall_102 {fr M1 M2 b1 b2 : Nat} {Q : RS → Nat → AH → Prop} {h : AH} {l1 : Int} {x2 x3 : AV} {R : Int → AH → Prop}   (hS : Sp mX12_is true (fr - 1) 0 0 [zR 98, zI 8] 137 h (rI R)) (hf : 1 ≤ fr := by omega) (kk : ∀ (x : Int) (h' : AH), R x h' → Wp mX12_readsWall (kR fr M1 M2) Q (b1, b2) 108 [zR 98, zI l1, none, none] [zI x] 137 h') : Wp mX12_readsWall (kR fr M1 M2) Q (b1, b2) 102 [zR 98, zI l1, x2, x3] [] 137 h := by
  refine s_fgt (fgt_c (fgt_c (fgt_n _ (fgt_n _ fgt_0)))) ?_
  refine s_aload_n (x := 98) dX12_readsWall_102 rfl ?_
  refine s_bipush dX12_readsWall_103 (by decide) ?_
  exact s_callV (as := [zI 8]) (st := []) (o := 98) dX12_readsWall_105 kX12_210 rfl ⟨12, 87, TX12, e98, rfl, by decide⟩ rfl rfl (Nat.le_of_ble_eq_true rfl) hS (show fr - 1 + 1 ≤ fr by omega) (Nat.zero_le _) (Nat.zero_le _) (fun v n' h' hP _ => by obtain ⟨x, e, rfl, hR⟩ := hP; cases e; exact kk x h' hR) (fun E n' h' _ z => (rI_nt _ _ _ z).elim)
theorem bX12_readsWall_108 {fr M1 M2 b1 b2 : Nat} {Q : RS → Nat → AH → Prop} {h : AH} {l1 s0 : Int} {x2 x3 : AV}  (r1 : -2147483648 ≤ s0 ∧ s0 < 2147483648 := by omega) (kt : s0 = 0 → Wp mX12_readsWall (kR fr M1 M2) Q (b1, b2) 228 [zR 98, zI l1, none, none] [] 137 h) (kf : ¬ s0 = 0 → Wp mX12_readsWall (kR fr M1 M2) Q (b1, b2) 111 [zR 98, zI l1, none, none] [] 137 h) : Wp mX12_readsWall (kR fr M1 M2) Q (b1, b2) 108 [zR 98, zI l1, x2, x3] [zI s0] 137 h := by
  refine s_fgt (fgt_c (fgt_c (fgt_n _ (fgt_n _ fgt_0)))) ?_
  exact s_if_eq (tgt := 228) dX12_readsWall_108 (by decide) r1 kt kf
theorem bX12_readsWall_111 {fr M1 M2 b1 b2 : Nat} {Q : RS → Nat → AH → Prop} {h : AH} {l1 : Int} {x2 x3 : AV} {R : AH → Prop}   (hS : Sp mX12_steps true (fr - 1) 0 0 [zR 98] 137 h (rV R)) (hf : 1 ≤ fr := by omega) (kk : ∀ h' : AH, R h' → Wp mX12_readsWall (kR fr M1 M2) Q (b1, b2) 115 [zR 98, zI l1, none, none] [] 137 h') : Wp mX12_readsWall (kR fr M1 M2) Q (b1, b2) 111 [zR 98, zI l1, x2, x3] [] 137 h := by
  refine s_fgt (fgt_c (fgt_c (fgt_n _ (fgt_n _ fgt_0)))) ?_
  refine s_aload_n (x := 98) dX12_readsWall_111 rfl ?_
  exact s_callV (as := []) (st := []) (o := 98) dX12_readsWall_112 kX12_194 rfl ⟨12, 87, TX12, e98, rfl, by decide⟩ rfl rfl (Nat.le_of_ble_eq_true rfl) hS (show fr - 1 + 1 ≤ fr by omega) (Nat.zero_le _) (Nat.zero_le _) (fun v n' h' hP _ => by obtain ⟨e, rfl, hR⟩ := hP; cases e; exact kk h' hR) (fun E n' h' _ z => (rV_nt _ _ _ z).elim)
theorem bX12_readsWall_115 {fr M1 M2 b1 b2 : Nat} {Q : RS → Nat → AH → Prop} {h : AH} {l1 : Int} {x2 x3 : AV}   (kk : Wp mX12_readsWall (kR fr M1 M2) Q (b1, b2) 117 [zR 98, zI l1, zI 1, none] [] 137 h) : Wp mX12_readsWall (kR fr M1 M2) Q (b1, b2) 115 [zR 98, zI l1, x2, x3] [] 137 h := by
  refine s_fgt (fgt_c (fgt_c (fgt_n _ (fgt_n _ fgt_0)))) ?_
  refine s_iconst dX12_readsWall_115 ?_
  refine s_istore_n dX12_readsWall_116 rfl (by decide) ?_
  exact kk
theorem bX12_readsWall_117 {fr M1 M2 b1 b2 : Nat} {Q : RS → Nat → AH → Prop} {h : AH} {l1 l2 : Int} {x3 : AV}  (r1 : -2147483648 ≤ l2 ∧ l2 < 2147483648 := by omega) (kt : l2 = 0 → Wp mX12_readsWall (kR fr M1 M2) Q (b1, b2) 228 [zR 98, zI l1, zI l2, none] [] 137 h) (kf : ¬ l2 = 0 → Wp mX12_readsWall (kR fr M1 M2) Q (b1, b2) 121 [zR 98, zI l1, zI l2, none] [] 137 h) : Wp mX12_readsWall (kR fr M1 M2) Q (b1, b2) 117 [zR 98, zI l1, zI l2, x3] [] 137 h := by
  refine s_fgt (fgt_c (fgt_c (fgt_c (fgt_n _ fgt_0)))) ?_
  refine s_iload_n (x := l2) dX12_readsWall_117 rfl ?_
  exact s_if_eq (tgt := 228) dX12_readsWall_118 (by decide) r1 kt kf
theorem bX12_readsWall_121 {fr M1 M2 b1 b2 : Nat} {Q : RS → Nat → AH → Prop} {h : AH} {l1 : Int} {x2 x3 : AV} {R : Int → AH → Prop}   (hS : Sp mX12_isGood true (fr - 1) 0 0 [zR 98] 137 h (rI R)) (hf : 1 ≤ fr := by omega) (kk : ∀ (x : Int) (h' : AH), R x h' → Wp mX12_readsWall (kR fr M1 M2) Q (b1, b2) 125 [zR 98, zI l1, none, none] [zI x] 137 h') : Wp mX12_readsWall (kR fr M1 M2) Q (b1, b2) 121 [zR 98, zI l1, x2, x3] [] 137 h := by
  refine s_fgt (fgt_c (fgt_c (fgt_n _ (fgt_n _ fgt_0)))) ?_
  refine s_aload_n (x := 98) dX12_readsWall_121 rfl ?_
  exact s_callV (as := []) (st := []) (o := 98) dX12_readsWall_122 kX12_190 rfl ⟨12, 87, TX12, e98, rfl, by decide⟩ rfl rfl (Nat.le_of_ble_eq_true rfl) hS (show fr - 1 + 1 ≤ fr by omega) (Nat.zero_le _) (Nat.zero_le _) (fun v n' h' hP _ => by obtain ⟨x, e, rfl, hR⟩ := hP; cases e; exact kk x h' hR) (fun E n' h' _ z => (rI_nt _ _ _ z).elim)
theorem bX12_readsWall_125 {fr M1 M2 b1 b2 : Nat} {Q : RS → Nat → AH → Prop} {h : AH} {l1 s0 : Int} {x2 x3 : AV}  (r1 : -2147483648 ≤ s0 ∧ s0 < 2147483648 := by omega) (kt : s0 = 0 → Wp mX12_readsWall (kR fr M1 M2) Q (b1, b2) 176 [zR 98, zI l1, none, none] [] 137 h) (kf : ¬ s0 = 0 → Wp mX12_readsWall (kR fr M1 M2) Q (b1, b2) 128 [zR 98, zI l1, none, none] [] 137 h) : Wp mX12_readsWall (kR fr M1 M2) Q (b1, b2) 125 [zR 98, zI l1, x2, x3] [zI s0] 137 h := by
  refine s_fgt (fgt_c (fgt_c (fgt_n _ (fgt_n _ fgt_0)))) ?_
  exact s_if_eq (tgt := 176) dX12_readsWall_125 (by decide) r1 kt kf
theorem bX12_readsWall_128 {fr M1 M2 b1 b2 : Nat} {Q : RS → Nat → AH → Prop} {h : AH} {l1 : Int} {x2 x3 : AV}  (r1 : -2147483648 ≤ h 98 22 ∧ h 98 22 < 2147483648 := by omega) (kt : ¬ h 98 22 = 2 → Wp mX12_readsWall (kR fr M1 M2) Q (b1, b2) 176 [zR 98, zI l1, none, none] [] 137 h) (kf : h 98 22 = 2 → Wp mX12_readsWall (kR fr M1 M2) Q (b1, b2) 136 [zR 98, zI l1, none, none] [] 137 h) : Wp mX12_readsWall (kR fr M1 M2) Q (b1, b2) 128 [zR 98, zI l1, x2, x3] [] 137 h := by
  refine s_fgt (fgt_c (fgt_c (fgt_n _ (fgt_n _ fgt_0)))) ?_
  refine s_aload_n (x := 98) dX12_readsWall_128 rfl ?_
  refine s_get (c := 98) dX12_readsWall_129 lX12_166 e98 (by decide) ?_
  refine s_iconst dX12_readsWall_132 ?_
  exact s_icmp_ne (tgt := 176) dX12_readsWall_133 (by decide) r1 ⟨by decide, by decide⟩ kt kf
theorem bX12_readsWall_136 {fr M1 M2 b1 b2 : Nat} {Q : RS → Nat → AH → Prop} {h : AH} {l1 : Int} {x2 x3 : AV}  (r1 : -2147483648 ≤ h 98 24 ∧ h 98 24 < 2147483648 := by omega) (kt : 4 < h 98 24 → Wp mX12_readsWall (kR fr M1 M2) Q (b1, b2) 176 [zR 98, zI l1, none, none] [] 137 h) (kf : h 98 24 ≤ 4 → Wp mX12_readsWall (kR fr M1 M2) Q (b1, b2) 144 [zR 98, zI l1, none, none] [] 137 h) : Wp mX12_readsWall (kR fr M1 M2) Q (b1, b2) 136 [zR 98, zI l1, x2, x3] [] 137 h := by
  refine s_fgt (fgt_c (fgt_c (fgt_n _ (fgt_n _ fgt_0)))) ?_
  refine s_aload_n (x := 98) dX12_readsWall_136 rfl ?_
  refine s_get (c := 98) dX12_readsWall_137 lX12_176 e98 (by decide) ?_
  refine s_iconst dX12_readsWall_140 ?_
  exact s_icmp_gt (tgt := 176) dX12_readsWall_141 (by decide) r1 ⟨by decide, by decide⟩ kt kf
theorem bX12_readsWall_144 {fr M1 M2 b1 b2 : Nat} {Q : RS → Nat → AH → Prop} {h : AH} {l1 : Int} {x2 x3 : AV}  (r1 : -2147483648 ≤ h 98 25 ∧ h 98 25 < 2147483648 := by omega) (kt : 3 < h 98 25 → Wp mX12_readsWall (kR fr M1 M2) Q (b1, b2) 176 [zR 98, zI l1, none, none] [] 137 h) (kf : h 98 25 ≤ 3 → Wp mX12_readsWall (kR fr M1 M2) Q (b1, b2) 152 [zR 98, zI l1, none, none] [] 137 h) : Wp mX12_readsWall (kR fr M1 M2) Q (b1, b2) 144 [zR 98, zI l1, x2, x3] [] 137 h := by
  refine s_fgt (fgt_c (fgt_c (fgt_n _ (fgt_n _ fgt_0)))) ?_
  refine s_aload_n (x := 98) dX12_readsWall_144 rfl ?_
  refine s_get (c := 98) dX12_readsWall_145 lX12_163 e98 (by decide) ?_
  refine s_iconst dX12_readsWall_148 ?_
  exact s_icmp_gt (tgt := 176) dX12_readsWall_149 (by decide) r1 ⟨by decide, by decide⟩ kt kf
theorem bX12_readsWall_152 {fr M1 M2 b1 b2 : Nat} {Q : RS → Nat → AH → Prop} {h : AH} {l1 : Int} {x2 x3 : AV}  (r1 : 0 ≤ l1 + 4 ∧ l1 + 4 < 36 := by omega) (r2 : 0 ≤ h 98 25 ∧ h 98 25 < 32 := by omega) (r3 : -2147483648 ≤ h 109 (l1 + 4) ∧ h 109 (l1 + 4) < 2147483648 := by omega) (r4 : -2147483648 ≤ bAnd ((h 109 (l1 + 4)) / 2 ^ (h 98 25).toNat) 1 ∧ bAnd ((h 109 (l1 + 4)) / 2 ^ (h 98 25).toNat) 1 < 2147483648 := by omega) (kt : ¬ bAnd ((h 109 (l1 + 4)) / 2 ^ (h 98 25).toNat) 1 = 1 → Wp mX12_readsWall (kR fr M1 M2) Q (b1, b2) 176 [zR 98, zI l1, none, none] [] 137 h) (kf : bAnd ((h 109 (l1 + 4)) / 2 ^ (h 98 25).toNat) 1 = 1 → Wp mX12_readsWall (kR fr M1 M2) Q (b1, b2) 171 [zR 98, zI l1, none, none] [] 137 h) : Wp mX12_readsWall (kR fr M1 M2) Q (b1, b2) 152 [zR 98, zI l1, x2, x3] [] 137 h := by
  refine s_fgt (fgt_c (fgt_c (fgt_n _ (fgt_n _ fgt_0)))) ?_
  refine s_aload_n (x := 98) dX12_readsWall_152 rfl ?_
  refine s_getFd (c := 98) (d := 109) dX12_readsWall_153 lX12_47 e98 (Or.inl rfl) (by decide) (by decide) ?_
  refine s_iload_n (x := l1) dX12_readsWall_156 rfl ?_
  refine s_iconst dX12_readsWall_157 ?_
  refine s_iadd dX12_readsWall_158 ?_
  refine s_iald (c := 109) (i := l1 + 4) dX12_readsWall_159 e109 r1.1 r1.2 ?_
  refine s_aload_n (x := 98) dX12_readsWall_160 rfl ?_
  refine s_get (c := 98) dX12_readsWall_161 lX12_163 e98 (by decide) ?_
  refine s_ishrN dX12_readsWall_164 r3 r2.1 r2.2 ?_
  refine s_iconst dX12_readsWall_165 ?_
  refine s_iand dX12_readsWall_166 ?_
  refine s_iconst dX12_readsWall_167 ?_
  exact s_icmp_ne (tgt := 176) dX12_readsWall_168 (by decide) r4 ⟨by decide, by decide⟩ kt kf
theorem bX12_readsWall_171 {fr M1 M2 b1 b2 : Nat} {Q : RS → Nat → AH → Prop} {h : AH} {l1 : Int} {x2 x3 : AV} {R : AH → Prop}   (hS : Sp mX12_wrong true (fr - 1) 0 0 [zR 98, zI 4] 137 h (rV R)) (hf : 1 ≤ fr := by omega) (kk : ∀ h' : AH, R h' → Wp mX12_readsWall (kR fr M1 M2) Q (b1, b2) 176 [zR 98, zI l1, none, none] [] 137 h') : Wp mX12_readsWall (kR fr M1 M2) Q (b1, b2) 171 [zR 98, zI l1, x2, x3] [] 137 h := by
  refine s_fgt (fgt_c (fgt_c (fgt_n _ (fgt_n _ fgt_0)))) ?_
  refine s_aload_n (x := 98) dX12_readsWall_171 rfl ?_
  refine s_iconst dX12_readsWall_172 ?_
  exact s_callV (as := [zI 4]) (st := []) (o := 98) dX12_readsWall_173 kX12_197 rfl ⟨12, 87, TX12, e98, rfl, by decide⟩ rfl rfl (Nat.le_of_ble_eq_true rfl) hS (show fr - 1 + 1 ≤ fr by omega) (Nat.zero_le _) (Nat.zero_le _) (fun v n' h' hP _ => by obtain ⟨e, rfl, hR⟩ := hP; cases e; exact kk h' hR) (fun E n' h' _ z => (rV_nt _ _ _ z).elim)
theorem bX12_readsWall_176 {fr M1 M2 b1 b2 : Nat} {Q : RS → Nat → AH → Prop} {h : AH} {l1 : Int} {x2 x3 : AV} {R : Int → AH → Prop}   (hS : Sp mX12_number true (fr - 1) 0 0 [zR 98, zI 0, zI 3] 137 h (rI R)) (hf : 1 ≤ fr := by omega) (kk : ∀ (x : Int) (h' : AH), R x h' → Wp mX12_readsWall (kR fr M1 M2) Q (b1, b2) 182 [zR 98, zI l1, none, none] [zI x] 137 h') : Wp mX12_readsWall (kR fr M1 M2) Q (b1, b2) 176 [zR 98, zI l1, x2, x3] [] 137 h := by
  refine s_fgt (fgt_c (fgt_c (fgt_n _ (fgt_n _ fgt_0)))) ?_
  refine s_aload_n (x := 98) dX12_readsWall_176 rfl ?_
  refine s_iconst dX12_readsWall_177 ?_
  refine s_iconst dX12_readsWall_178 ?_
  exact s_callV (as := [zI 0, zI 3]) (st := []) (o := 98) dX12_readsWall_179 kX12_206 rfl ⟨12, 87, TX12, e98, rfl, by decide⟩ rfl rfl (Nat.le_of_ble_eq_true rfl) hS (show fr - 1 + 1 ≤ fr by omega) (Nat.zero_le _) (Nat.zero_le _) (fun v n' h' hP _ => by obtain ⟨x, e, rfl, hR⟩ := hP; cases e; exact kk x h' hR) (fun E n' h' _ z => (rI_nt _ _ _ z).elim)
theorem bX12_readsWall_182 {fr M1 M2 b1 b2 : Nat} {Q : RS → Nat → AH → Prop} {h : AH} {l1 s0 : Int} {x2 x3 : AV} {R : Int → AH → Prop}   (hS : Sp mX12_isGood true (fr - 1) 0 0 [zR 98] 137 h (rI R)) (hf : 1 ≤ fr := by omega) (kk : ∀ (x : Int) (h' : AH), R x h' → Wp mX12_readsWall (kR fr M1 M2) Q (b1, b2) 187 [zR 98, zI l1, none, zI s0] [zI x] 137 h') : Wp mX12_readsWall (kR fr M1 M2) Q (b1, b2) 182 [zR 98, zI l1, x2, x3] [zI s0] 137 h := by
  refine s_fgt (fgt_c (fgt_c (fgt_n _ (fgt_n _ fgt_0)))) ?_
  refine s_istore_n dX12_readsWall_182 rfl (by decide) ?_
  refine s_aload_n (x := 98) dX12_readsWall_183 rfl ?_
  exact s_callV (as := []) (st := []) (o := 98) dX12_readsWall_184 kX12_190 rfl ⟨12, 87, TX12, e98, rfl, by decide⟩ rfl rfl (Nat.le_of_ble_eq_true rfl) hS (show fr - 1 + 1 ≤ fr by omega) (Nat.zero_le _) (Nat.zero_le _) (fun v n' h' hP _ => by obtain ⟨x, e, rfl, hR⟩ := hP; cases e; exact kk x h' hR) (fun E n' h' _ z => (rI_nt _ _ _ z).elim)
theorem bX12_readsWall_187 {fr M1 M2 b1 b2 : Nat} {Q : RS → Nat → AH → Prop} {h : AH} {l1 l3 s0 : Int} {x2 : AV}  (r1 : -2147483648 ≤ s0 ∧ s0 < 2147483648 := by omega) (kt : s0 = 0 → Wp mX12_readsWall (kR fr M1 M2) Q (b1, b2) 204 [zR 98, zI l1, none, zI l3] [] 137 h) (kf : ¬ s0 = 0 → Wp mX12_readsWall (kR fr M1 M2) Q (b1, b2) 190 [zR 98, zI l1, none, zI l3] [] 137 h) : Wp mX12_readsWall (kR fr M1 M2) Q (b1, b2) 187 [zR 98, zI l1, x2, zI l3] [zI s0] 137 h := by
  refine s_fgt (fgt_c (fgt_c (fgt_n _ (fgt_c fgt_0)))) ?_
  exact s_if_eq (tgt := 204) dX12_readsWall_187 (by decide) r1 kt kf
theorem bX12_readsWall_190 {fr M1 M2 b1 b2 : Nat} {Q : RS → Nat → AH → Prop} {h : AH} {l1 l3 : Int} {x2 : AV}  (r1 : 0 ≤ l1 + 4 ∧ l1 + 4 < 36 := by omega) (r2 : 0 ≤ l3 ∧ l3 < 32 := by omega) (kk : Wp mX12_readsWall (kR fr M1 M2) Q (b1, b2) 204 [zR 98, zI l1, none, zI l3] [] 137 (up h 109 (l1 + 4) (bOr (h 109 (l1 + 4)) (1 * 2 ^ l3.toNat)))) : Wp mX12_readsWall (kR fr M1 M2) Q (b1, b2) 190 [zR 98, zI l1, x2, zI l3] [] 137 h := by
  refine s_fgt (fgt_c (fgt_c (fgt_n _ (fgt_c fgt_0)))) ?_
  refine s_aload_n (x := 98) dX12_readsWall_190 rfl ?_
  refine s_getFd (c := 98) (d := 109) dX12_readsWall_191 lX12_47 e98 (Or.inl rfl) (by decide) (by decide) ?_
  refine s_iload_n (x := l1) dX12_readsWall_194 rfl ?_
  refine s_iconst dX12_readsWall_195 ?_
  refine s_iadd dX12_readsWall_196 ?_
  refine s_dup2 dX12_readsWall_197 rfl rfl ?_
  refine s_iald (c := 109) (i := l1 + 4) dX12_readsWall_198 e109 r1.1 r1.2 ?_
  refine s_iconst dX12_readsWall_199 ?_
  refine s_iload_n (x := l3) dX12_readsWall_200 rfl ?_
  refine s_ishlN dX12_readsWall_201 r2.1 r2.2 ?_
  refine s_ior dX12_readsWall_202 ?_
  refine s_iast (c := 109) (i := l1 + 4) dX12_readsWall_203 e109 r1.1 r1.2 ?_
  exact kk
theorem bX12_readsWall_204 {fr M1 M2 b1 b2 : Nat} {Q : RS → Nat → AH → Prop} {h : AH} {l1 : Int} {x2 x3 : AV} {R : Int → AH → Prop}   (hS : Sp mX12_isGood true (fr - 1) 0 0 [zR 98] 137 h (rI R)) (hf : 1 ≤ fr := by omega) (kk : ∀ (x : Int) (h' : AH), R x h' → Wp mX12_readsWall (kR fr M1 M2) Q (b1, b2) 208 [zR 98, zI l1, none, none] [zI x] 137 h') : Wp mX12_readsWall (kR fr M1 M2) Q (b1, b2) 204 [zR 98, zI l1, x2, x3] [] 137 h := by
  refine s_fgt (fgt_c (fgt_c (fgt_n _ (fgt_n _ fgt_0)))) ?_
  refine s_aload_n (x := 98) dX12_readsWall_204 rfl ?_
  exact s_callV (as := []) (st := []) (o := 98) dX12_readsWall_205 kX12_190 rfl ⟨12, 87, TX12, e98, rfl, by decide⟩ rfl rfl (Nat.le_of_ble_eq_true rfl) hS (show fr - 1 + 1 ≤ fr by omega) (Nat.zero_le _) (Nat.zero_le _) (fun v n' h' hP _ => by obtain ⟨x, e, rfl, hR⟩ := hP; cases e; exact kk x h' hR) (fun E n' h' _ z => (rI_nt _ _ _ z).elim)
theorem bX12_readsWall_208 {fr M1 M2 b1 b2 : Nat} {Q : RS → Nat → AH → Prop} {h : AH} {l1 s0 : Int} {x2 x3 : AV}  (r1 : -2147483648 ≤ s0 ∧ s0 < 2147483648 := by omega) (kt : s0 = 0 → Wp mX12_readsWall (kR fr M1 M2) Q (b1, b2) 223 [zR 98, zI l1, none, none] [] 137 h) (kf : ¬ s0 = 0 → Wp mX12_readsWall (kR fr M1 M2) Q (b1, b2) 211 [zR 98, zI l1, none, none] [] 137 h) : Wp mX12_readsWall (kR fr M1 M2) Q (b1, b2) 208 [zR 98, zI l1, x2, x3] [zI s0] 137 h := by
  refine s_fgt (fgt_c (fgt_c (fgt_n _ (fgt_n _ fgt_0)))) ?_
  exact s_if_eq (tgt := 223) dX12_readsWall_208 (by decide) r1 kt kf
theorem bX12_readsWall_211 {fr M1 M2 b1 b2 : Nat} {Q : RS → Nat → AH → Prop} {h : AH} {l1 : Int} {x2 x3 : AV}  (r1 : -2147483648 ≤ h 98 22 ∧ h 98 22 < 2147483648 := by omega) (kt : ¬ h 98 22 = 2 → Wp mX12_readsWall (kR fr M1 M2) Q (b1, b2) 223 [zR 98, zI l1, none, none] [] 137 h) (kf : h 98 22 = 2 → Wp mX12_readsWall (kR fr M1 M2) Q (b1, b2) 219 [zR 98, zI l1, none, none] [] 137 h) : Wp mX12_readsWall (kR fr M1 M2) Q (b1, b2) 211 [zR 98, zI l1, x2, x3] [] 137 h := by
  refine s_fgt (fgt_c (fgt_c (fgt_n _ (fgt_n _ fgt_0)))) ?_
  refine s_aload_n (x := 98) dX12_readsWall_211 rfl ?_
  refine s_get (c := 98) dX12_readsWall_212 lX12_166 e98 (by decide) ?_
  refine s_iconst dX12_readsWall_215 ?_
  exact s_icmp_ne (tgt := 223) dX12_readsWall_216 (by decide) r1 ⟨by decide, by decide⟩ kt kf
theorem bX12_readsWall_219 {fr M1 M2 b1 b2 : Nat} {Q : RS → Nat → AH → Prop} {h : AH} {l1 : Int} {x2 x3 : AV}   (kk : Wp mX12_readsWall (kR fr M1 M2) Q (b1, b2) 224 [zR 98, zI l1, none, none] [zI 1] 137 h) : Wp mX12_readsWall (kR fr M1 M2) Q (b1, b2) 219 [zR 98, zI l1, x2, x3] [] 137 h := by
  refine s_fgt (fgt_c (fgt_c (fgt_n _ (fgt_n _ fgt_0)))) ?_
  refine s_iconst dX12_readsWall_219 ?_
  exact s_goto (tgt := 224) dX12_readsWall_220 (by decide) kk
theorem bX12_readsWall_223 {fr M1 M2 b1 b2 : Nat} {Q : RS → Nat → AH → Prop} {h : AH} {l1 : Int} {x2 x3 : AV}   (kk : Wp mX12_readsWall (kR fr M1 M2) Q (b1, b2) 224 [zR 98, zI l1, none, none] [zI 0] 137 h) : Wp mX12_readsWall (kR fr M1 M2) Q (b1, b2) 223 [zR 98, zI l1, x2, x3] [] 137 h := by
  refine s_fgt (fgt_c (fgt_c (fgt_n _ (fgt_n _ fgt_0)))) ?_
  refine s_iconst dX12_readsWall_223 ?_
  exact kk
theorem bX12_readsWall_224 {fr M1 M2 b1 b2 : Nat} {Q : RS → Nat → AH → Prop} {h : AH} {l1 s0 : Int} {x2 x3 : AV}   (kk : Wp mX12_readsWall (kR fr M1 M2) Q (b1, b2) 117 [zR 98, zI l1, zI s0, none] [] 137 h) : Wp mX12_readsWall (kR fr M1 M2) Q (b1, b2) 224 [zR 98, zI l1, x2, x3] [zI s0] 137 h := by
  refine s_fgt (fgt_c (fgt_c (fgt_n _ (fgt_n _ fgt_0)))) ?_
  refine s_istore_n dX12_readsWall_224 rfl (by decide) ?_
  exact s_goto (tgt := 117) dX12_readsWall_225 (by decide) kk
theorem bX12_readsWall_228 {fr M1 M2 b1 b2 : Nat} {Q : RS → Nat → AH → Prop} {h : AH} {l1 : Int} {x2 x3 : AV} {R : Int → AH → Prop}   (hS : Sp mX12_isGood true (fr - 1) 0 0 [zR 98] 137 h (rI R)) (hf : 1 ≤ fr := by omega) (kk : ∀ (x : Int) (h' : AH), R x h' → Wp mX12_readsWall (kR fr M1 M2) Q (b1, b2) 232 [zR 98, zI l1, none, none] [zI x] 137 h') : Wp mX12_readsWall (kR fr M1 M2) Q (b1, b2) 228 [zR 98, zI l1, x2, x3] [] 137 h := by
  refine s_fgt (fgt_c (fgt_c (fgt_n _ (fgt_n _ fgt_0)))) ?_
  refine s_aload_n (x := 98) dX12_readsWall_228 rfl ?_
  exact s_callV (as := []) (st := []) (o := 98) dX12_readsWall_229 kX12_190 rfl ⟨12, 87, TX12, e98, rfl, by decide⟩ rfl rfl (Nat.le_of_ble_eq_true rfl) hS (show fr - 1 + 1 ≤ fr by omega) (Nat.zero_le _) (Nat.zero_le _) (fun v n' h' hP _ => by obtain ⟨x, e, rfl, hR⟩ := hP; cases e; exact kk x h' hR) (fun E n' h' _ z => (rI_nt _ _ _ z).elim)
theorem bX12_readsWall_232 {fr M1 M2 b1 b2 : Nat} {Q : RS → Nat → AH → Prop} {h : AH} {l1 s0 : Int} {x2 x3 : AV}  (r1 : -2147483648 ≤ s0 ∧ s0 < 2147483648 := by omega) (kt : s0 = 0 → Wp mX12_readsWall (kR fr M1 M2) Q (b1, b2) 262 [zR 98, zI l1, none, none] [] 137 h) (kf : ¬ s0 = 0 → Wp mX12_readsWall (kR fr M1 M2) Q (b1, b2) 235 [zR 98, zI l1, none, none] [] 137 h) : Wp mX12_readsWall (kR fr M1 M2) Q (b1, b2) 232 [zR 98, zI l1, x2, x3] [zI s0] 137 h := by
  refine s_fgt (fgt_c (fgt_c (fgt_n _ (fgt_n _ fgt_0)))) ?_
  exact s_if_eq (tgt := 262) dX12_readsWall_232 (by decide) r1 kt kf
theorem bX12_readsWall_235 {fr M1 M2 b1 b2 : Nat} {Q : RS → Nat → AH → Prop} {h : AH} {l1 : Int} {x2 x3 : AV} {R : Int → AH → Prop}   (hS : Sp mX12_is true (fr - 1) 0 0 [zR 98, zI 9] 137 h (rI R)) (hf : 1 ≤ fr := by omega) (kk : ∀ (x : Int) (h' : AH), R x h' → Wp mX12_readsWall (kR fr M1 M2) Q (b1, b2) 241 [zR 98, zI l1, none, none] [zI x] 137 h') : Wp mX12_readsWall (kR fr M1 M2) Q (b1, b2) 235 [zR 98, zI l1, x2, x3] [] 137 h := by
  refine s_fgt (fgt_c (fgt_c (fgt_n _ (fgt_n _ fgt_0)))) ?_
  refine s_aload_n (x := 98) dX12_readsWall_235 rfl ?_
  refine s_bipush dX12_readsWall_236 (by decide) ?_
  exact s_callV (as := [zI 9]) (st := []) (o := 98) dX12_readsWall_238 kX12_210 rfl ⟨12, 87, TX12, e98, rfl, by decide⟩ rfl rfl (Nat.le_of_ble_eq_true rfl) hS (show fr - 1 + 1 ≤ fr by omega) (Nat.zero_le _) (Nat.zero_le _) (fun v n' h' hP _ => by obtain ⟨x, e, rfl, hR⟩ := hP; cases e; exact kk x h' hR) (fun E n' h' _ z => (rI_nt _ _ _ z).elim)
theorem bX12_readsWall_241 {fr M1 M2 b1 b2 : Nat} {Q : RS → Nat → AH → Prop} {h : AH} {l1 s0 : Int} {x2 x3 : AV}  (r1 : -2147483648 ≤ s0 ∧ s0 < 2147483648 := by omega) (kt : s0 = 0 → Wp mX12_readsWall (kR fr M1 M2) Q (b1, b2) 262 [zR 98, zI l1, none, none] [] 137 h) (kf : ¬ s0 = 0 → Wp mX12_readsWall (kR fr M1 M2) Q (b1, b2) 244 [zR 98, zI l1, none, none] [] 137 h) : Wp mX12_readsWall (kR fr M1 M2) Q (b1, b2) 241 [zR 98, zI l1, x2, x3] [zI s0] 137 h := by
  refine s_fgt (fgt_c (fgt_c (fgt_n _ (fgt_n _ fgt_0)))) ?_
  exact s_if_eq (tgt := 262) dX12_readsWall_241 (by decide) r1 kt kf
theorem bX12_readsWall_244 {fr M1 M2 b1 b2 : Nat} {Q : RS → Nat → AH → Prop} {h : AH} {l1 : Int} {x2 x3 : AV} {R : AH → Prop}   (hS : Sp mX12_steps true (fr - 1) 0 0 [zR 98] 137 h (rV R)) (hf : 1 ≤ fr := by omega) (kk : ∀ h' : AH, R h' → Wp mX12_readsWall (kR fr M1 M2) Q (b1, b2) 248 [zR 98, zI l1, none, none] [] 137 h') : Wp mX12_readsWall (kR fr M1 M2) Q (b1, b2) 244 [zR 98, zI l1, x2, x3] [] 137 h := by
  refine s_fgt (fgt_c (fgt_c (fgt_n _ (fgt_n _ fgt_0)))) ?_
  refine s_aload_n (x := 98) dX12_readsWall_244 rfl ?_
  exact s_callV (as := []) (st := []) (o := 98) dX12_readsWall_245 kX12_194 rfl ⟨12, 87, TX12, e98, rfl, by decide⟩ rfl rfl (Nat.le_of_ble_eq_true rfl) hS (show fr - 1 + 1 ≤ fr by omega) (Nat.zero_le _) (Nat.zero_le _) (fun v n' h' hP _ => by obtain ⟨e, rfl, hR⟩ := hP; cases e; exact kk h' hR) (fun E n' h' _ z => (rV_nt _ _ _ z).elim)
theorem bX12_readsWall_248 {fr M1 M2 b1 b2 : Nat} {Q : RS → Nat → AH → Prop} {h : AH} {l1 : Int} {x2 x3 : AV} {R : Int → AH → Prop}   (hS : Sp mX12_number true (fr - 1) 0 0 [zR 98, zI 1, zI 3] 137 h (rI R)) (hf : 1 ≤ fr := by omega) (kk : ∀ (x : Int) (h' : AH), R x h' → Wp mX12_readsWall (kR fr M1 M2) Q (b1, b2) 261 [zR 98, zI l1, none, none] [zI x, zI (l1 + 5), zR 109] 137 h') : Wp mX12_readsWall (kR fr M1 M2) Q (b1, b2) 248 [zR 98, zI l1, x2, x3] [] 137 h := by
  refine s_fgt (fgt_c (fgt_c (fgt_n _ (fgt_n _ fgt_0)))) ?_
  refine s_aload_n (x := 98) dX12_readsWall_248 rfl ?_
  refine s_getFd (c := 98) (d := 109) dX12_readsWall_249 lX12_47 e98 (Or.inl rfl) (by decide) (by decide) ?_
  refine s_iload_n (x := l1) dX12_readsWall_252 rfl ?_
  refine s_iconst dX12_readsWall_253 ?_
  refine s_iadd dX12_readsWall_254 ?_
  refine s_aload_n (x := 98) dX12_readsWall_255 rfl ?_
  refine s_iconst dX12_readsWall_256 ?_
  refine s_iconst dX12_readsWall_257 ?_
  exact s_callV (as := [zI 1, zI 3]) (st := [zI (l1 + 5), zR 109]) (o := 98) dX12_readsWall_258 kX12_206 rfl ⟨12, 87, TX12, e98, rfl, by decide⟩ rfl rfl (Nat.le_of_ble_eq_true rfl) hS (show fr - 1 + 1 ≤ fr by omega) (Nat.zero_le _) (Nat.zero_le _) (fun v n' h' hP _ => by obtain ⟨x, e, rfl, hR⟩ := hP; cases e; exact kk x h' hR) (fun E n' h' _ z => (rI_nt _ _ _ z).elim)
theorem bX12_readsWall_261 {fr M1 M2 b1 b2 : Nat} {Q : RS → Nat → AH → Prop} {h : AH} {s2 s1 s0 : Int} {N1 : Nat} {x1 x2 x3 : AV} (c1 : cel 137 s2 (100, N1) := by first | assumption | omega) (r1 : 0 ≤ s1 ∧ s1 < N1 := by omega) (kk : Wp mX12_readsWall (kR fr M1 M2) Q (b1, b2) 262 [zR 98, none, none, none] [] 137 (up h s2 s1 s0)) : Wp mX12_readsWall (kR fr M1 M2) Q (b1, b2) 261 [zR 98, x1, x2, x3] [zI s0, zI s1, zR s2] 137 h := by
  refine s_fgt (fgt_c (fgt_n _ (fgt_n _ (fgt_n _ fgt_0)))) ?_
  refine s_iast (c := s2) (i := s1) dX12_readsWall_261 c1 r1.1 r1.2 ?_
  exact kk
theorem bX12_readsWall_262 {fr M1 M2 b1 b2 : Nat} {Q : RS → Nat → AH → Prop} {h : AH} {x1 x2 x3 : AV} {R : Int → AH → Prop}   (hS : Sp mX12_isGood true (fr - 1) 0 0 [zR 98] 137 h (rI R)) (hf : 1 ≤ fr := by omega) (kk : ∀ (x : Int) (h' : AH), R x h' → Wp mX12_readsWall (kR fr M1 M2) Q (b1, b2) 266 [zR 98, none, none, none] [zI x] 137 h') : Wp mX12_readsWall (kR fr M1 M2) Q (b1, b2) 262 [zR 98, x1, x2, x3] [] 137 h := by
  refine s_fgt (fgt_c (fgt_n _ (fgt_n _ (fgt_n _ fgt_0)))) ?_
  refine s_aload_n (x := 98) dX12_readsWall_262 rfl ?_
  exact s_callV (as := []) (st := []) (o := 98) dX12_readsWall_263 kX12_190 rfl ⟨12, 87, TX12, e98, rfl, by decide⟩ rfl rfl (Nat.le_of_ble_eq_true rfl) hS (show fr - 1 + 1 ≤ fr by omega) (Nat.zero_le _) (Nat.zero_le _) (fun v n' h' hP _ => by obtain ⟨x, e, rfl, hR⟩ := hP; cases e; exact kk x h' hR) (fun E n' h' _ z => (rI_nt _ _ _ z).elim)
theorem bX12_readsWall_266 {fr M1 M2 b1 b2 : Nat} {Q : RS → Nat → AH → Prop} {h : AH} {s0 : Int} {x1 x2 x3 : AV}  (r1 : -2147483648 ≤ s0 ∧ s0 < 2147483648 := by omega) (kt : s0 = 0 → Wp mX12_readsWall (kR fr M1 M2) Q (b1, b2) 279 [zR 98, none, none, none] [] 137 h) (kf : ¬ s0 = 0 → Wp mX12_readsWall (kR fr M1 M2) Q (b1, b2) 269 [zR 98, none, none, none] [] 137 h) : Wp mX12_readsWall (kR fr M1 M2) Q (b1, b2) 266 [zR 98, x1, x2, x3] [zI s0] 137 h := by
  refine s_fgt (fgt_c (fgt_n _ (fgt_n _ (fgt_n _ fgt_0)))) ?_
  exact s_if_eq (tgt := 279) dX12_readsWall_266 (by decide) r1 kt kf
theorem bX12_readsWall_269 {fr M1 M2 b1 b2 : Nat} {Q : RS → Nat → AH → Prop} {h : AH} {x1 x2 x3 : AV}   (kk : Wp mX12_readsWall (kR fr M1 M2) Q (b1, b2) 279 [zR 98, none, none, none] [] 137 (up h 98 28 ((h 98 28) + 1))) : Wp mX12_readsWall (kR fr M1 M2) Q (b1, b2) 269 [zR 98, x1, x2, x3] [] 137 h := by
  refine s_fgt (fgt_c (fgt_n _ (fgt_n _ (fgt_n _ fgt_0)))) ?_
  refine s_aload_n (x := 98) dX12_readsWall_269 rfl ?_
  refine s_dup dX12_readsWall_270 rfl ?_
  refine s_get (c := 98) dX12_readsWall_271 lX12_203 e98 (by decide) ?_
  refine s_iconst dX12_readsWall_274 ?_
  refine s_iadd dX12_readsWall_275 ?_
  refine s_put (c := 98) dX12_readsWall_276 lX12_203 e98 ?_
  exact kk
theorem bX12_readsWall_279 {fr M1 M2 b1 b2 : Nat} {Q : RS → Nat → AH → Prop} {h : AH} {x0 x1 x2 x3 : AV}   (hq : Q (.inl none) 137 h) : Wp mX12_readsWall (kR fr M1 M2) Q (b1, b2) 279 [x0, x1, x2, x3] [] 137 h := by
  refine s_fgt (fgt_n _ (fgt_n _ (fgt_n _ (fgt_n _ fgt_0)))) ?_
  exact s_return dX12_readsWall_279 rfl hq (fun z => by cases z)
theorem dX12_readsSweet_0 : decode mX12_readsSweet.cd 0 = .ok (.aload_n 0, 1) := by decide +kernel
theorem dX12_readsSweet_1 : decode mX12_readsSweet.cd 1 = .ok (.invokevirtual 194, 3) := by decide +kernel
theorem dX12_readsSweet_4 : decode mX12_readsSweet.cd 4 = .ok (.aload_n 0, 1) := by decide +kernel
theorem dX12_readsSweet_5 : decode mX12_readsSweet.cd 5 = .ok (.invokevirtual 213, 3) := by decide +kernel
theorem dX12_readsSweet_8 : decode mX12_readsSweet.cd 8 = .ok (.ifCond .eq 10, 3) := by decide +kernel
theorem dX12_readsSweet_11 : decode mX12_readsSweet.cd 11 = .ok (.aload_n 0, 1) := by decide +kernel
theorem dX12_readsSweet_12 : decode mX12_readsSweet.cd 12 = .ok (.getfield 163, 3) := by decide +kernel
theorem dX12_readsSweet_15 : decode mX12_readsSweet.cd 15 = .ok (.goto 4, 3) := by decide +kernel
theorem dX12_readsSweet_18 : decode mX12_readsSweet.cd 18 = .ok (.iconst 0, 1) := by decide +kernel
theorem dX12_readsSweet_19 : decode mX12_readsSweet.cd 19 = .ok (.istore_n 1, 1) := by decide +kernel
theorem dX12_readsSweet_20 : decode mX12_readsSweet.cd 20 = .ok (.aload_n 0, 1) := by decide +kernel
theorem dX12_readsSweet_21 : decode mX12_readsSweet.cd 21 = .ok (.invokevirtual 190, 3) := by decide +kernel
theorem dX12_readsSweet_24 : decode mX12_readsSweet.cd 24 = .ok (.ifCond .eq 7, 3) := by decide +kernel
theorem dX12_readsSweet_27 : decode mX12_readsSweet.cd 27 = .ok (.aload_n 0, 1) := by decide +kernel
theorem dX12_readsSweet_28 : decode mX12_readsSweet.cd 28 = .ok (.invokevirtual 194, 3) := by decide +kernel
theorem dX12_readsSweet_31 : decode mX12_readsSweet.cd 31 = .ok (.aload_n 0, 1) := by decide +kernel
theorem dX12_readsSweet_32 : decode mX12_readsSweet.cd 32 = .ok (.invokevirtual 213, 3) := by decide +kernel
theorem dX12_readsSweet_35 : decode mX12_readsSweet.cd 35 = .ok (.ifCond .eq 16, 3) := by decide +kernel
theorem dX12_readsSweet_38 : decode mX12_readsSweet.cd 38 = .ok (.aload_n 0, 1) := by decide +kernel
theorem dX12_readsSweet_39 : decode mX12_readsSweet.cd 39 = .ok (.getfield 163, 3) := by decide +kernel
theorem dX12_readsSweet_42 : decode mX12_readsSweet.cd 42 = .ok (.iload_n 1, 1) := by decide +kernel
theorem dX12_readsSweet_43 : decode mX12_readsSweet.cd 43 = .ok (.if_icmp .ne 8, 3) := by decide +kernel
theorem dX12_readsSweet_46 : decode mX12_readsSweet.cd 46 = .ok (.aload_n 0, 1) := by decide +kernel
theorem dX12_readsSweet_47 : decode mX12_readsSweet.cd 47 = .ok (.iconst 4, 1) := by decide +kernel
theorem dX12_readsSweet_48 : decode mX12_readsSweet.cd 48 = .ok (.invokevirtual 197, 3) := by decide +kernel
theorem dX12_readsSweet_51 : decode mX12_readsSweet.cd 51 = .ok (.aload_n 0, 1) := by decide +kernel
theorem dX12_readsSweet_52 : decode mX12_readsSweet.cd 52 = .ok (.invokevirtual 190, 3) := by decide +kernel
theorem dX12_readsSweet_55 : decode mX12_readsSweet.cd 55 = .ok (.ifCond .ne 4, 3) := by decide +kernel
theorem dX12_readsSweet_58 : decode mX12_readsSweet.cd 58 = .ok (.return_, 1) := by decide +kernel
theorem dX12_readsSweet_59 : decode mX12_readsSweet.cd 59 = .ok (.aload_n 0, 1) := by decide +kernel
theorem dX12_readsSweet_60 : decode mX12_readsSweet.cd 60 = .ok (.getfield 62, 3) := by decide +kernel
theorem dX12_readsSweet_63 : decode mX12_readsSweet.cd 63 = .ok (.iload_n 1, 1) := by decide +kernel
theorem dX12_readsSweet_64 : decode mX12_readsSweet.cd 64 = .ok (.dup2, 1) := by decide +kernel
theorem dX12_readsSweet_65 : decode mX12_readsSweet.cd 65 = .ok (.iaload, 1) := by decide +kernel
theorem dX12_readsSweet_66 : decode mX12_readsSweet.cd 66 = .ok (.iconst 1, 1) := by decide +kernel
theorem dX12_readsSweet_67 : decode mX12_readsSweet.cd 67 = .ok (.aload_n 0, 1) := by decide +kernel
theorem dX12_readsSweet_68 : decode mX12_readsSweet.cd 68 = .ok (.getfield 163, 3) := by decide +kernel
theorem dX12_readsSweet_71 : decode mX12_readsSweet.cd 71 = .ok (.ishl, 1) := by decide +kernel
theorem dX12_readsSweet_72 : decode mX12_readsSweet.cd 72 = .ok (.ior, 1) := by decide +kernel
theorem dX12_readsSweet_73 : decode mX12_readsSweet.cd 73 = .ok (.iastore, 1) := by decide +kernel
theorem dX12_readsSweet_74 : decode mX12_readsSweet.cd 74 = .ok (.aload_n 0, 1) := by decide +kernel
theorem dX12_readsSweet_75 : decode mX12_readsSweet.cd 75 = .ok (.getfield 62, 3) := by decide +kernel
theorem dX12_readsSweet_78 : decode mX12_readsSweet.cd 78 = .ok (.aload_n 0, 1) := by decide +kernel
theorem dX12_readsSweet_79 : decode mX12_readsSweet.cd 79 = .ok (.getfield 163, 3) := by decide +kernel
theorem dX12_readsSweet_82 : decode mX12_readsSweet.cd 82 = .ok (.dup2, 1) := by decide +kernel
theorem dX12_readsSweet_83 : decode mX12_readsSweet.cd 83 = .ok (.iaload, 1) := by decide +kernel
theorem dX12_readsSweet_84 : decode mX12_readsSweet.cd 84 = .ok (.iconst 1, 1) := by decide +kernel
theorem dX12_readsSweet_85 : decode mX12_readsSweet.cd 85 = .ok (.iload_n 1, 1) := by decide +kernel
theorem dX12_readsSweet_86 : decode mX12_readsSweet.cd 86 = .ok (.ishl, 1) := by decide +kernel
theorem dX12_readsSweet_87 : decode mX12_readsSweet.cd 87 = .ok (.ior, 1) := by decide +kernel
theorem dX12_readsSweet_88 : decode mX12_readsSweet.cd 88 = .ok (.iastore, 1) := by decide +kernel
theorem dX12_readsSweet_89 : decode mX12_readsSweet.cd 89 = .ok (.aload_n 0, 1) := by decide +kernel
theorem dX12_readsSweet_90 : decode mX12_readsSweet.cd 90 = .ok (.invokevirtual 194, 3) := by decide +kernel
theorem dX12_readsSweet_93 : decode mX12_readsSweet.cd 93 = .ok (.return_, 1) := by decide +kernel
theorem bX12_readsSweet_0 {fr M1 M2 b1 b2 : Nat} {Q : RS → Nat → AH → Prop} {h : AH} {x1 : AV} {R : AH → Prop}   (hS : Sp mX12_steps true (fr - 1) 0 0 [zR 98] 137 h (rV R)) (hf : 1 ≤ fr := by omega) (kk : ∀ h' : AH, R h' → Wp mX12_readsSweet (kR fr M1 M2) Q (b1, b2) 4 [zR 98, none] [] 137 h') : Wp mX12_readsSweet (kR fr M1 M2) Q (b1, b2) 0 [zR 98, x1] [] 137 h := by
  refine s_fgt (fgt_c (fgt_n _ fgt_0)) ?_
  refine s_aload_n (x := 98) dX12_readsSweet_0 rfl ?_
  exact s_callV (as := []) (st := []) (o := 98) dX12_readsSweet_1 kX12_194 rfl ⟨12, 87, TX12, e98, rfl, by decide⟩ rfl rfl (Nat.le_of_ble_eq_true rfl) hS (show fr - 1 + 1 ≤ fr by omega) (Nat.zero_le _) (Nat.zero_le _) (fun v n' h' hP _ => by obtain ⟨e, rfl, hR⟩ := hP; cases e; exact kk h' hR) (fun E n' h' _ z => (rV_nt _ _ _ z).elim)
theorem bX12_readsSweet_4 {fr M1 M2 b1 b2 : Nat} {Q : RS → Nat → AH → Prop} {h : AH} {x1 : AV} {R : Int → AH → Prop}   (hS : Sp mX12_soundHere true (fr - 1) 0 0 [zR 98] 137 h (rI R)) (hf : 1 ≤ fr := by omega) (kk : ∀ (x : Int) (h' : AH), R x h' → Wp mX12_readsSweet (kR fr M1 M2) Q (b1, b2) 8 [zR 98, none] [zI x] 137 h') : Wp mX12_readsSweet (kR fr M1 M2) Q (b1, b2) 4 [zR 98, x1] [] 137 h := by
  refine s_fgt (fgt_c (fgt_n _ fgt_0)) ?_
  refine s_aload_n (x := 98) dX12_readsSweet_4 rfl ?_
  exact s_callV (as := []) (st := []) (o := 98) dX12_readsSweet_5 kX12_213 rfl ⟨12, 87, TX12, e98, rfl, by decide⟩ rfl rfl (Nat.le_of_ble_eq_true rfl) hS (show fr - 1 + 1 ≤ fr by omega) (Nat.zero_le _) (Nat.zero_le _) (fun v n' h' hP _ => by obtain ⟨x, e, rfl, hR⟩ := hP; cases e; exact kk x h' hR) (fun E n' h' _ z => (rI_nt _ _ _ z).elim)
theorem bX12_readsSweet_8 {fr M1 M2 b1 b2 : Nat} {Q : RS → Nat → AH → Prop} {h : AH} {s0 : Int} {x1 : AV}  (r1 : -2147483648 ≤ s0 ∧ s0 < 2147483648 := by omega) (kt : s0 = 0 → Wp mX12_readsSweet (kR fr M1 M2) Q (b1, b2) 18 [zR 98, none] [] 137 h) (kf : ¬ s0 = 0 → Wp mX12_readsSweet (kR fr M1 M2) Q (b1, b2) 11 [zR 98, none] [] 137 h) : Wp mX12_readsSweet (kR fr M1 M2) Q (b1, b2) 8 [zR 98, x1] [zI s0] 137 h := by
  refine s_fgt (fgt_c (fgt_n _ fgt_0)) ?_
  exact s_if_eq (tgt := 18) dX12_readsSweet_8 (by decide) r1 kt kf
theorem bX12_readsSweet_11 {fr M1 M2 b1 b2 : Nat} {Q : RS → Nat → AH → Prop} {h : AH} {x1 : AV}   (kk : Wp mX12_readsSweet (kR fr M1 M2) Q (b1, b2) 19 [zR 98, none] [zI (h 98 25)] 137 h) : Wp mX12_readsSweet (kR fr M1 M2) Q (b1, b2) 11 [zR 98, x1] [] 137 h := by
  refine s_fgt (fgt_c (fgt_n _ fgt_0)) ?_
  refine s_aload_n (x := 98) dX12_readsSweet_11 rfl ?_
  refine s_get (c := 98) dX12_readsSweet_12 lX12_163 e98 (by decide) ?_
  exact s_goto (tgt := 19) dX12_readsSweet_15 (by decide) kk
theorem bX12_readsSweet_18 {fr M1 M2 b1 b2 : Nat} {Q : RS → Nat → AH → Prop} {h : AH} {x1 : AV}   (kk : Wp mX12_readsSweet (kR fr M1 M2) Q (b1, b2) 19 [zR 98, none] [zI 0] 137 h) : Wp mX12_readsSweet (kR fr M1 M2) Q (b1, b2) 18 [zR 98, x1] [] 137 h := by
  refine s_fgt (fgt_c (fgt_n _ fgt_0)) ?_
  refine s_iconst dX12_readsSweet_18 ?_
  exact kk
theorem bX12_readsSweet_19 {fr M1 M2 b1 b2 : Nat} {Q : RS → Nat → AH → Prop} {h : AH} {s0 : Int} {x1 : AV} {R : Int → AH → Prop}   (hS : Sp mX12_isGood true (fr - 1) 0 0 [zR 98] 137 h (rI R)) (hf : 1 ≤ fr := by omega) (kk : ∀ (x : Int) (h' : AH), R x h' → Wp mX12_readsSweet (kR fr M1 M2) Q (b1, b2) 24 [zR 98, zI s0] [zI x] 137 h') : Wp mX12_readsSweet (kR fr M1 M2) Q (b1, b2) 19 [zR 98, x1] [zI s0] 137 h := by
  refine s_fgt (fgt_c (fgt_n _ fgt_0)) ?_
  refine s_istore_n dX12_readsSweet_19 rfl (by decide) ?_
  refine s_aload_n (x := 98) dX12_readsSweet_20 rfl ?_
  exact s_callV (as := []) (st := []) (o := 98) dX12_readsSweet_21 kX12_190 rfl ⟨12, 87, TX12, e98, rfl, by decide⟩ rfl rfl (Nat.le_of_ble_eq_true rfl) hS (show fr - 1 + 1 ≤ fr by omega) (Nat.zero_le _) (Nat.zero_le _) (fun v n' h' hP _ => by obtain ⟨x, e, rfl, hR⟩ := hP; cases e; exact kk x h' hR) (fun E n' h' _ z => (rI_nt _ _ _ z).elim)
theorem bX12_readsSweet_24 {fr M1 M2 b1 b2 : Nat} {Q : RS → Nat → AH → Prop} {h : AH} {l1 s0 : Int}  (r1 : -2147483648 ≤ s0 ∧ s0 < 2147483648 := by omega) (kt : s0 = 0 → Wp mX12_readsSweet (kR fr M1 M2) Q (b1, b2) 31 [zR 98, zI l1] [] 137 h) (kf : ¬ s0 = 0 → Wp mX12_readsSweet (kR fr M1 M2) Q (b1, b2) 27 [zR 98, zI l1] [] 137 h) : Wp mX12_readsSweet (kR fr M1 M2) Q (b1, b2) 24 [zR 98, zI l1] [zI s0] 137 h := by
  exact s_if_eq (tgt := 31) dX12_readsSweet_24 (by decide) r1 kt kf
theorem bX12_readsSweet_27 {fr M1 M2 b1 b2 : Nat} {Q : RS → Nat → AH → Prop} {h : AH} {l1 : Int} {R : AH → Prop}   (hS : Sp mX12_steps true (fr - 1) 0 0 [zR 98] 137 h (rV R)) (hf : 1 ≤ fr := by omega) (kk : ∀ h' : AH, R h' → Wp mX12_readsSweet (kR fr M1 M2) Q (b1, b2) 31 [zR 98, zI l1] [] 137 h') : Wp mX12_readsSweet (kR fr M1 M2) Q (b1, b2) 27 [zR 98, zI l1] [] 137 h := by
  refine s_aload_n (x := 98) dX12_readsSweet_27 rfl ?_
  exact s_callV (as := []) (st := []) (o := 98) dX12_readsSweet_28 kX12_194 rfl ⟨12, 87, TX12, e98, rfl, by decide⟩ rfl rfl (Nat.le_of_ble_eq_true rfl) hS (show fr - 1 + 1 ≤ fr by omega) (Nat.zero_le _) (Nat.zero_le _) (fun v n' h' hP _ => by obtain ⟨e, rfl, hR⟩ := hP; cases e; exact kk h' hR) (fun E n' h' _ z => (rV_nt _ _ _ z).elim)
theorem bX12_readsSweet_31 {fr M1 M2 b1 b2 : Nat} {Q : RS → Nat → AH → Prop} {h : AH} {l1 : Int} {R : Int → AH → Prop}   (hS : Sp mX12_soundHere true (fr - 1) 0 0 [zR 98] 137 h (rI R)) (hf : 1 ≤ fr := by omega) (kk : ∀ (x : Int) (h' : AH), R x h' → Wp mX12_readsSweet (kR fr M1 M2) Q (b1, b2) 35 [zR 98, zI l1] [zI x] 137 h') : Wp mX12_readsSweet (kR fr M1 M2) Q (b1, b2) 31 [zR 98, zI l1] [] 137 h := by
  refine s_aload_n (x := 98) dX12_readsSweet_31 rfl ?_
  exact s_callV (as := []) (st := []) (o := 98) dX12_readsSweet_32 kX12_213 rfl ⟨12, 87, TX12, e98, rfl, by decide⟩ rfl rfl (Nat.le_of_ble_eq_true rfl) hS (show fr - 1 + 1 ≤ fr by omega) (Nat.zero_le _) (Nat.zero_le _) (fun v n' h' hP _ => by obtain ⟨x, e, rfl, hR⟩ := hP; cases e; exact kk x h' hR) (fun E n' h' _ z => (rI_nt _ _ _ z).elim)
theorem bX12_readsSweet_35 {fr M1 M2 b1 b2 : Nat} {Q : RS → Nat → AH → Prop} {h : AH} {l1 s0 : Int}  (r1 : -2147483648 ≤ s0 ∧ s0 < 2147483648 := by omega) (kt : s0 = 0 → Wp mX12_readsSweet (kR fr M1 M2) Q (b1, b2) 51 [zR 98, zI l1] [] 137 h) (kf : ¬ s0 = 0 → Wp mX12_readsSweet (kR fr M1 M2) Q (b1, b2) 38 [zR 98, zI l1] [] 137 h) : Wp mX12_readsSweet (kR fr M1 M2) Q (b1, b2) 35 [zR 98, zI l1] [zI s0] 137 h := by
  exact s_if_eq (tgt := 51) dX12_readsSweet_35 (by decide) r1 kt kf
theorem bX12_readsSweet_38 {fr M1 M2 b1 b2 : Nat} {Q : RS → Nat → AH → Prop} {h : AH} {l1 : Int}  (r1 : -2147483648 ≤ h 98 25 ∧ h 98 25 < 2147483648 := by omega) (r2 : -2147483648 ≤ l1 ∧ l1 < 2147483648 := by omega) (kt : ¬ h 98 25 = l1 → Wp mX12_readsSweet (kR fr M1 M2) Q (b1, b2) 51 [zR 98, zI l1] [] 137 h) (kf : h 98 25 = l1 → Wp mX12_readsSweet (kR fr M1 M2) Q (b1, b2) 46 [zR 98, zI l1] [] 137 h) : Wp mX12_readsSweet (kR fr M1 M2) Q (b1, b2) 38 [zR 98, zI l1] [] 137 h := by
  refine s_aload_n (x := 98) dX12_readsSweet_38 rfl ?_
  refine s_get (c := 98) dX12_readsSweet_39 lX12_163 e98 (by decide) ?_
  refine s_iload_n (x := l1) dX12_readsSweet_42 rfl ?_
  exact s_icmp_ne (tgt := 51) dX12_readsSweet_43 (by decide) r1 r2 kt kf
theorem bX12_readsSweet_46 {fr M1 M2 b1 b2 : Nat} {Q : RS → Nat → AH → Prop} {h : AH} {l1 : Int} {R : AH → Prop}   (hS : Sp mX12_wrong true (fr - 1) 0 0 [zR 98, zI 4] 137 h (rV R)) (hf : 1 ≤ fr := by omega) (kk : ∀ h' : AH, R h' → Wp mX12_readsSweet (kR fr M1 M2) Q (b1, b2) 51 [zR 98, zI l1] [] 137 h') : Wp mX12_readsSweet (kR fr M1 M2) Q (b1, b2) 46 [zR 98, zI l1] [] 137 h := by
  refine s_aload_n (x := 98) dX12_readsSweet_46 rfl ?_
  refine s_iconst dX12_readsSweet_47 ?_
  exact s_callV (as := [zI 4]) (st := []) (o := 98) dX12_readsSweet_48 kX12_197 rfl ⟨12, 87, TX12, e98, rfl, by decide⟩ rfl rfl (Nat.le_of_ble_eq_true rfl) hS (show fr - 1 + 1 ≤ fr by omega) (Nat.zero_le _) (Nat.zero_le _) (fun v n' h' hP _ => by obtain ⟨e, rfl, hR⟩ := hP; cases e; exact kk h' hR) (fun E n' h' _ z => (rV_nt _ _ _ z).elim)
theorem bX12_readsSweet_51 {fr M1 M2 b1 b2 : Nat} {Q : RS → Nat → AH → Prop} {h : AH} {l1 : Int} {R : Int → AH → Prop}   (hS : Sp mX12_isGood true (fr - 1) 0 0 [zR 98] 137 h (rI R)) (hf : 1 ≤ fr := by omega) (kk : ∀ (x : Int) (h' : AH), R x h' → Wp mX12_readsSweet (kR fr M1 M2) Q (b1, b2) 55 [zR 98, zI l1] [zI x] 137 h') : Wp mX12_readsSweet (kR fr M1 M2) Q (b1, b2) 51 [zR 98, zI l1] [] 137 h := by
  refine s_aload_n (x := 98) dX12_readsSweet_51 rfl ?_
  exact s_callV (as := []) (st := []) (o := 98) dX12_readsSweet_52 kX12_190 rfl ⟨12, 87, TX12, e98, rfl, by decide⟩ rfl rfl (Nat.le_of_ble_eq_true rfl) hS (show fr - 1 + 1 ≤ fr by omega) (Nat.zero_le _) (Nat.zero_le _) (fun v n' h' hP _ => by obtain ⟨x, e, rfl, hR⟩ := hP; cases e; exact kk x h' hR) (fun E n' h' _ z => (rI_nt _ _ _ z).elim)
theorem bX12_readsSweet_55 {fr M1 M2 b1 b2 : Nat} {Q : RS → Nat → AH → Prop} {h : AH} {l1 s0 : Int}  (r1 : -2147483648 ≤ s0 ∧ s0 < 2147483648 := by omega) (kt : ¬ s0 = 0 → Wp mX12_readsSweet (kR fr M1 M2) Q (b1, b2) 59 [zR 98, zI l1] [] 137 h) (kf : s0 = 0 → Wp mX12_readsSweet (kR fr M1 M2) Q (b1, b2) 58 [zR 98, zI l1] [] 137 h) : Wp mX12_readsSweet (kR fr M1 M2) Q (b1, b2) 55 [zR 98, zI l1] [zI s0] 137 h := by
  exact s_if_ne (tgt := 59) dX12_readsSweet_55 (by decide) r1 kt kf
theorem bX12_readsSweet_58 {fr M1 M2 b1 b2 : Nat} {Q : RS → Nat → AH → Prop} {h : AH} {x0 x1 : AV}   (hq : Q (.inl none) 137 h) : Wp mX12_readsSweet (kR fr M1 M2) Q (b1, b2) 58 [x0, x1] [] 137 h := by
  refine s_fgt (fgt_n _ (fgt_n _ fgt_0)) ?_
  exact s_return dX12_readsSweet_58 rfl hq (fun z => by cases z)
theorem bX12_readsSweet_59 {fr M1 M2 b1 b2 : Nat} {Q : RS → Nat → AH → Prop} {h : AH} {l1 : Int} {R : AH → Prop}  (r1 : 0 ≤ l1 ∧ l1 < 8 := by omega) (r2 : 0 ≤ h 98 25 ∧ h 98 25 < 32 := by omega) (r3 : 0 ≤ h 98 25 ∧ h 98 25 < 8 := by omega) (r4 : 0 ≤ l1 ∧ l1 < 32 := by omega) (hS : Sp mX12_steps true (fr - 1) 0 0 [zR 98] 137 (up (up h 114 l1 (bOr (h 114 l1) (1 * 2 ^ (h 98 25).toNat))) 114 (h 98 25) (bOr ((up h 114 l1 (bOr (h 114 l1) (1 * 2 ^ (h 98 25).toNat))) 114 (h 98 25)) (1 * 2 ^ l1.toNat))) (rV R)) (hf : 1 ≤ fr := by omega) (kk : ∀ h' : AH, R h' → Wp mX12_readsSweet (kR fr M1 M2) Q (b1, b2) 93 [zR 98, zI l1] [] 137 h') : Wp mX12_readsSweet (kR fr M1 M2) Q (b1, b2) 59 [zR 98, zI l1] [] 137 h := by
  refine s_aload_n (x := 98) dX12_readsSweet_59 rfl ?_
  refine s_getFd (c := 98) (d := 114) dX12_readsSweet_60 lX12_62 e98 (Or.inl rfl) (by decide) (by decide) ?_
  refine s_iload_n (x := l1) dX12_readsSweet_63 rfl ?_
  refine s_dup2 dX12_readsSweet_64 rfl rfl ?_
  refine s_iald (c := 114) (i := l1) dX12_readsSweet_65 e114 r1.1 r1.2 ?_
  refine s_iconst dX12_readsSweet_66 ?_
  refine s_aload_n (x := 98) dX12_readsSweet_67 rfl ?_
  refine s_get (c := 98) dX12_readsSweet_68 lX12_163 e98 (by decide) ?_
  refine s_ishlN dX12_readsSweet_71 r2.1 r2.2 ?_
  refine s_ior dX12_readsSweet_72 ?_
  refine s_iast (c := 114) (i := l1) dX12_readsSweet_73 e114 r1.1 r1.2 ?_
  refine s_aload_n (x := 98) dX12_readsSweet_74 rfl ?_
  refine s_getFd (c := 98) (d := 114) dX12_readsSweet_75 lX12_62 e98 (Or.inl rfl) (by decide) (by decide) ?_
  refine s_aload_n (x := 98) dX12_readsSweet_78 rfl ?_
  refine s_get (c := 98) dX12_readsSweet_79 lX12_163 e98 (by decide) ?_
  refine s_dup2 dX12_readsSweet_82 rfl rfl ?_
  refine s_iald (c := 114) (i := h 98 25) dX12_readsSweet_83 e114 r3.1 r3.2 ?_
  refine s_iconst dX12_readsSweet_84 ?_
  refine s_iload_n (x := l1) dX12_readsSweet_85 rfl ?_
  refine s_ishlN dX12_readsSweet_86 r4.1 r4.2 ?_
  refine s_ior dX12_readsSweet_87 ?_
  refine s_iast (c := 114) (i := h 98 25) dX12_readsSweet_88 e114 r3.1 r3.2 ?_
  refine s_aload_n (x := 98) dX12_readsSweet_89 rfl ?_
  exact s_callV (as := []) (st := []) (o := 98) dX12_readsSweet_90 kX12_194 rfl ⟨12, 87, TX12, e98, rfl, by decide⟩ rfl rfl (Nat.le_of_ble_eq_true rfl) hS (show fr - 1 + 1 ≤ fr by omega) (Nat.zero_le _) (Nat.zero_le _) (fun v n' h' hP _ => by obtain ⟨e, rfl, hR⟩ := hP; cases e; exact kk h' hR) (fun E n' h' _ z => (rV_nt _ _ _ z).elim)
theorem bX12_readsSweet_93 {fr M1 M2 b1 b2 : Nat} {Q : RS → Nat → AH → Prop} {h : AH} {x0 x1 : AV}   (hq : Q (.inl none) 137 h) : Wp mX12_readsSweet (kR fr M1 M2) Q (b1, b2) 93 [x0, x1] [] 137 h := by
  refine s_fgt (fgt_n _ (fgt_n _ fgt_0)) ?_
  exact s_return dX12_readsSweet_93 rfl hq (fun z => by cases z)
theorem dX12_readsWord_0 : decode mX12_readsWord.cd 0 = .ok (.aload_n 0, 1) := by decide +kernel
theorem dX12_readsWord_1 : decode mX12_readsWord.cd 1 = .ok (.getfield 216, 3) := by decide +kernel
theorem dX12_readsWord_4 : decode mX12_readsWord.cd 4 = .ok (.bipush 8, 2) := by decide +kernel
theorem dX12_readsWord_6 : decode mX12_readsWord.cd 6 = .ok (.if_icmp .ne 8, 3) := by decide +kernel
theorem dX12_readsWord_9 : decode mX12_readsWord.cd 9 = .ok (.aload_n 0, 1) := by decide +kernel
theorem dX12_readsWord_10 : decode mX12_readsWord.cd 10 = .ok (.iconst 2, 1) := by decide +kernel
theorem dX12_readsWord_11 : decode mX12_readsWord.cd 11 = .ok (.invokevirtual 197, 3) := by decide +kernel
theorem dX12_readsWord_14 : decode mX12_readsWord.cd 14 = .ok (.aload_n 0, 1) := by decide +kernel
theorem dX12_readsWord_15 : decode mX12_readsWord.cd 15 = .ok (.invokevirtual 190, 3) := by decide +kernel
theorem dX12_readsWord_18 : decode mX12_readsWord.cd 18 = .ok (.ifCond .ne 4, 3) := by decide +kernel
theorem dX12_readsWord_21 : decode mX12_readsWord.cd 21 = .ok (.return_, 1) := by decide +kernel
theorem dX12_readsWord_22 : decode mX12_readsWord.cd 22 = .ok (.aload_n 0, 1) := by decide +kernel
theorem dX12_readsWord_23 : decode mX12_readsWord.cd 23 = .ok (.invokevirtual 194, 3) := by decide +kernel
theorem dX12_readsWord_26 : decode mX12_readsWord.cd 26 = .ok (.bipush 6, 2) := by decide +kernel
theorem dX12_readsWord_28 : decode mX12_readsWord.cd 28 = .ok (.aload_n 0, 1) := by decide +kernel
theorem dX12_readsWord_29 : decode mX12_readsWord.cd 29 = .ok (.getfield 216, 3) := by decide +kernel
theorem dX12_readsWord_32 : decode mX12_readsWord.cd 32 = .ok (.imul, 1) := by decide +kernel
theorem dX12_readsWord_33 : decode mX12_readsWord.cd 33 = .ok (.istore_n 1, 1) := by decide +kernel
theorem dX12_readsWord_34 : decode mX12_readsWord.cd 34 = .ok (.aload_n 0, 1) := by decide +kernel
theorem dX12_readsWord_35 : decode mX12_readsWord.cd 35 = .ok (.getfield 50, 3) := by decide +kernel
theorem dX12_readsWord_38 : decode mX12_readsWord.cd 38 = .ok (.iload_n 1, 1) := by decide +kernel
theorem dX12_readsWord_39 : decode mX12_readsWord.cd 39 = .ok (.aload_n 0, 1) := by decide +kernel
theorem dX12_readsWord_40 : decode mX12_readsWord.cd 40 = .ok (.iconst 0, 1) := by decide +kernel
theorem dX12_readsWord_41 : decode mX12_readsWord.cd 41 = .ok (.iconst 3, 1) := by decide +kernel
theorem dX12_readsWord_42 : decode mX12_readsWord.cd 42 = .ok (.invokevirtual 206, 3) := by decide +kernel
theorem dX12_readsWord_45 : decode mX12_readsWord.cd 45 = .ok (.iastore, 1) := by decide +kernel
theorem dX12_readsWord_46 : decode mX12_readsWord.cd 46 = .ok (.aload_n 0, 1) := by decide +kernel
theorem dX12_readsWord_47 : decode mX12_readsWord.cd 47 = .ok (.getfield 50, 3) := by decide +kernel
theorem dX12_readsWord_50 : decode mX12_readsWord.cd 50 = .ok (.iload_n 1, 1) := by decide +kernel
theorem dX12_readsWord_51 : decode mX12_readsWord.cd 51 = .ok (.iconst 1, 1) := by decide +kernel
theorem dX12_readsWord_52 : decode mX12_readsWord.cd 52 = .ok (.iadd, 1) := by decide +kernel
theorem dX12_readsWord_53 : decode mX12_readsWord.cd 53 = .ok (.iconst 0, 1) := by decide +kernel
theorem dX12_readsWord_54 : decode mX12_readsWord.cd 54 = .ok (.iastore, 1) := by decide +kernel
theorem dX12_readsWord_55 : decode mX12_readsWord.cd 55 = .ok (.aload_n 0, 1) := by decide +kernel
theorem dX12_readsWord_56 : decode mX12_readsWord.cd 56 = .ok (.invokevirtual 190, 3) := by decide +kernel
theorem dX12_readsWord_59 : decode mX12_readsWord.cd 59 = .ok (.istore_n 2, 1) := by decide +kernel
theorem dX12_readsWord_60 : decode mX12_readsWord.cd 60 = .ok (.iload_n 2, 1) := by decide +kernel
theorem dX12_readsWord_61 : decode mX12_readsWord.cd 61 = .ok (.ifCond .eq 91, 3) := by decide +kernel
theorem dX12_readsWord_64 : decode mX12_readsWord.cd 64 = .ok (.aload_n 0, 1) := by decide +kernel
theorem dX12_readsWord_65 : decode mX12_readsWord.cd 65 = .ok (.getfield 50, 3) := by decide +kernel
theorem dX12_readsWord_68 : decode mX12_readsWord.cd 68 = .ok (.iload_n 1, 1) := by decide +kernel
theorem dX12_readsWord_69 : decode mX12_readsWord.cd 69 = .ok (.iconst 1, 1) := by decide +kernel
theorem dX12_readsWord_70 : decode mX12_readsWord.cd 70 = .ok (.iadd, 1) := by decide +kernel
theorem dX12_readsWord_71 : decode mX12_readsWord.cd 71 = .ok (.iaload, 1) := by decide +kernel
theorem dX12_readsWord_72 : decode mX12_readsWord.cd 72 = .ok (.iconst 4, 1) := by decide +kernel
theorem dX12_readsWord_73 : decode mX12_readsWord.cd 73 = .ok (.if_icmp .ne 11, 3) := by decide +kernel
theorem dX12_readsWord_76 : decode mX12_readsWord.cd 76 = .ok (.aload_n 0, 1) := by decide +kernel
theorem dX12_readsWord_77 : decode mX12_readsWord.cd 77 = .ok (.iconst 2, 1) := by decide +kernel
theorem dX12_readsWord_78 : decode mX12_readsWord.cd 78 = .ok (.invokevirtual 197, 3) := by decide +kernel
theorem dX12_readsWord_81 : decode mX12_readsWord.cd 81 = .ok (.goto 47, 3) := by decide +kernel
theorem dX12_readsWord_84 : decode mX12_readsWord.cd 84 = .ok (.aload_n 0, 1) := by decide +kernel
theorem dX12_readsWord_85 : decode mX12_readsWord.cd 85 = .ok (.invokevirtual 213, 3) := by decide +kernel
theorem dX12_readsWord_88 : decode mX12_readsWord.cd 88 = .ok (.ifCond .eq 40, 3) := by decide +kernel
theorem dX12_readsWord_91 : decode mX12_readsWord.cd 91 = .ok (.aload_n 0, 1) := by decide +kernel
theorem dX12_readsWord_92 : decode mX12_readsWord.cd 92 = .ok (.getfield 50, 3) := by decide +kernel
theorem dX12_readsWord_95 : decode mX12_readsWord.cd 95 = .ok (.iload_n 1, 1) := by decide +kernel
theorem dX12_readsWord_96 : decode mX12_readsWord.cd 96 = .ok (.iconst 2, 1) := by decide +kernel
theorem dX12_readsWord_97 : decode mX12_readsWord.cd 97 = .ok (.iadd, 1) := by decide +kernel
theorem dX12_readsWord_98 : decode mX12_readsWord.cd 98 = .ok (.aload_n 0, 1) := by decide +kernel
theorem dX12_readsWord_99 : decode mX12_readsWord.cd 99 = .ok (.getfield 50, 3) := by decide +kernel
theorem dX12_readsWord_102 : decode mX12_readsWord.cd 102 = .ok (.iload_n 1, 1) := by decide +kernel
theorem dX12_readsWord_103 : decode mX12_readsWord.cd 103 = .ok (.iconst 1, 1) := by decide +kernel
theorem dX12_readsWord_104 : decode mX12_readsWord.cd 104 = .ok (.iadd, 1) := by decide +kernel
theorem dX12_readsWord_105 : decode mX12_readsWord.cd 105 = .ok (.iaload, 1) := by decide +kernel
theorem dX12_readsWord_106 : decode mX12_readsWord.cd 106 = .ok (.iadd, 1) := by decide +kernel
theorem dX12_readsWord_107 : decode mX12_readsWord.cd 107 = .ok (.aload_n 0, 1) := by decide +kernel
theorem dX12_readsWord_108 : decode mX12_readsWord.cd 108 = .ok (.getfield 163, 3) := by decide +kernel
theorem dX12_readsWord_111 : decode mX12_readsWord.cd 111 = .ok (.iastore, 1) := by decide +kernel
theorem dX12_readsWord_112 : decode mX12_readsWord.cd 112 = .ok (.aload_n 0, 1) := by decide +kernel
theorem dX12_readsWord_113 : decode mX12_readsWord.cd 113 = .ok (.getfield 50, 3) := by decide +kernel
theorem dX12_readsWord_116 : decode mX12_readsWord.cd 116 = .ok (.iload_n 1, 1) := by decide +kernel
theorem dX12_readsWord_117 : decode mX12_readsWord.cd 117 = .ok (.iconst 1, 1) := by decide +kernel
theorem dX12_readsWord_118 : decode mX12_readsWord.cd 118 = .ok (.iadd, 1) := by decide +kernel
theorem dX12_readsWord_119 : decode mX12_readsWord.cd 119 = .ok (.dup2, 1) := by decide +kernel
theorem dX12_readsWord_120 : decode mX12_readsWord.cd 120 = .ok (.iaload, 1) := by decide +kernel
theorem dX12_readsWord_121 : decode mX12_readsWord.cd 121 = .ok (.iconst 1, 1) := by decide +kernel
theorem dX12_readsWord_122 : decode mX12_readsWord.cd 122 = .ok (.iadd, 1) := by decide +kernel
theorem dX12_readsWord_123 : decode mX12_readsWord.cd 123 = .ok (.iastore, 1) := by decide +kernel
theorem dX12_readsWord_124 : decode mX12_readsWord.cd 124 = .ok (.aload_n 0, 1) := by decide +kernel
theorem dX12_readsWord_125 : decode mX12_readsWord.cd 125 = .ok (.invokevirtual 194, 3) := by decide +kernel
theorem dX12_readsWord_128 : decode mX12_readsWord.cd 128 = .ok (.aload_n 0, 1) := by decide +kernel
theorem dX12_readsWord_129 : decode mX12_readsWord.cd 129 = .ok (.invokevirtual 190, 3) := by decide +kernel
theorem dX12_readsWord_132 : decode mX12_readsWord.cd 132 = .ok (.ifCond .eq 15, 3) := by decide +kernel
theorem dX12_readsWord_135 : decode mX12_readsWord.cd 135 = .ok (.aload_n 0, 1) := by decide +kernel
theorem dX12_readsWord_136 : decode mX12_readsWord.cd 136 = .ok (.getfield 166, 3) := by decide +kernel
theorem dX12_readsWord_139 : decode mX12_readsWord.cd 139 = .ok (.iconst 2, 1) := by decide +kernel
theorem dX12_readsWord_140 : decode mX12_readsWord.cd 140 = .ok (.if_icmp .ne 7, 3) := by decide +kernel
theorem dX12_readsWord_143 : decode mX12_readsWord.cd 143 = .ok (.iconst 1, 1) := by decide +kernel
theorem dX12_readsWord_144 : decode mX12_readsWord.cd 144 = .ok (.goto 4, 3) := by decide +kernel
theorem dX12_readsWord_147 : decode mX12_readsWord.cd 147 = .ok (.iconst 0, 1) := by decide +kernel
theorem dX12_readsWord_148 : decode mX12_readsWord.cd 148 = .ok (.istore_n 2, 1) := by decide +kernel
theorem dX12_readsWord_149 : decode mX12_readsWord.cd 149 = .ok (.goto (-89), 3) := by decide +kernel
theorem dX12_readsWord_152 : decode mX12_readsWord.cd 152 = .ok (.aload_n 0, 1) := by decide +kernel
theorem dX12_readsWord_153 : decode mX12_readsWord.cd 153 = .ok (.invokevirtual 190, 3) := by decide +kernel
theorem dX12_readsWord_156 : decode mX12_readsWord.cd 156 = .ok (.ifCond .eq 13, 3) := by decide +kernel
theorem dX12_readsWord_159 : decode mX12_readsWord.cd 159 = .ok (.aload_n 0, 1) := by decide +kernel
theorem dX12_readsWord_160 : decode mX12_readsWord.cd 160 = .ok (.dup, 1) := by decide +kernel
theorem dX12_readsWord_161 : decode mX12_readsWord.cd 161 = .ok (.getfield 216, 3) := by decide +kernel
theorem dX12_readsWord_164 : decode mX12_readsWord.cd 164 = .ok (.iconst 1, 1) := by decide +kernel
theorem dX12_readsWord_165 : decode mX12_readsWord.cd 165 = .ok (.iadd, 1) := by decide +kernel
theorem dX12_readsWord_166 : decode mX12_readsWord.cd 166 = .ok (.putfield 216, 3) := by decide +kernel
theorem dX12_readsWord_169 : decode mX12_readsWord.cd 169 = .ok (.return_, 1) := by decide +kernel
theorem bX12_readsWord_0 {fr M1 M2 b1 b2 : Nat} {Q : RS → Nat → AH → Prop} {h : AH} {x1 x2 : AV}  (r1 : -2147483648 ≤ h 98 29 ∧ h 98 29 < 2147483648 := by omega) (kt : ¬ h 98 29 = 8 → Wp mX12_readsWord (kR fr M1 M2) Q (b1, b2) 14 [zR 98, none, none] [] 137 h) (kf : h 98 29 = 8 → Wp mX12_readsWord (kR fr M1 M2) Q (b1, b2) 9 [zR 98, none, none] [] 137 h) : Wp mX12_readsWord (kR fr M1 M2) Q (b1, b2) 0 [zR 98, x1, x2] [] 137 h := by
  refine s_fgt (fgt_c (fgt_n _ (fgt_n _ fgt_0))) ?_
  refine s_aload_n (x := 98) dX12_readsWord_0 rfl ?_
  refine s_get (c := 98) dX12_readsWord_1 lX12_216 e98 (by decide) ?_
  refine s_bipush dX12_readsWord_4 (by decide) ?_
  exact s_icmp_ne (tgt := 14) dX12_readsWord_6 (by decide) r1 ⟨by decide, by decide⟩ kt kf
theorem bX12_readsWord_9 {fr M1 M2 b1 b2 : Nat} {Q : RS → Nat → AH → Prop} {h : AH} {x1 x2 : AV} {R : AH → Prop}   (hS : Sp mX12_wrong true (fr - 1) 0 0 [zR 98, zI 2] 137 h (rV R)) (hf : 1 ≤ fr := by omega) (kk : ∀ h' : AH, R h' → Wp mX12_readsWord (kR fr M1 M2) Q (b1, b2) 14 [zR 98, none, none] [] 137 h') : Wp mX12_readsWord (kR fr M1 M2) Q (b1, b2) 9 [zR 98, x1, x2] [] 137 h := by
  refine s_fgt (fgt_c (fgt_n _ (fgt_n _ fgt_0))) ?_
  refine s_aload_n (x := 98) dX12_readsWord_9 rfl ?_
  refine s_iconst dX12_readsWord_10 ?_
  exact s_callV (as := [zI 2]) (st := []) (o := 98) dX12_readsWord_11 kX12_197 rfl ⟨12, 87, TX12, e98, rfl, by decide⟩ rfl rfl (Nat.le_of_ble_eq_true rfl) hS (show fr - 1 + 1 ≤ fr by omega) (Nat.zero_le _) (Nat.zero_le _) (fun v n' h' hP _ => by obtain ⟨e, rfl, hR⟩ := hP; cases e; exact kk h' hR) (fun E n' h' _ z => (rV_nt _ _ _ z).elim)
theorem bX12_readsWord_14 {fr M1 M2 b1 b2 : Nat} {Q : RS → Nat → AH → Prop} {h : AH} {x1 x2 : AV} {R : Int → AH → Prop}   (hS : Sp mX12_isGood true (fr - 1) 0 0 [zR 98] 137 h (rI R)) (hf : 1 ≤ fr := by omega) (kk : ∀ (x : Int) (h' : AH), R x h' → Wp mX12_readsWord (kR fr M1 M2) Q (b1, b2) 18 [zR 98, none, none] [zI x] 137 h') : Wp mX12_readsWord (kR fr M1 M2) Q (b1, b2) 14 [zR 98, x1, x2] [] 137 h := by
  refine s_fgt (fgt_c (fgt_n _ (fgt_n _ fgt_0))) ?_
  refine s_aload_n (x := 98) dX12_readsWord_14 rfl ?_
  exact s_callV (as := []) (st := []) (o := 98) dX12_readsWord_15 kX12_190 rfl ⟨12, 87, TX12, e98, rfl, by decide⟩ rfl rfl (Nat.le_of_ble_eq_true rfl) hS (show fr - 1 + 1 ≤ fr by omega) (Nat.zero_le _) (Nat.zero_le _) (fun v n' h' hP _ => by obtain ⟨x, e, rfl, hR⟩ := hP; cases e; exact kk x h' hR) (fun E n' h' _ z => (rI_nt _ _ _ z).elim)
theorem bX12_readsWord_18 {fr M1 M2 b1 b2 : Nat} {Q : RS → Nat → AH → Prop} {h : AH} {s0 : Int} {x1 x2 : AV}  (r1 : -2147483648 ≤ s0 ∧ s0 < 2147483648 := by omega) (kt : ¬ s0 = 0 → Wp mX12_readsWord (kR fr M1 M2) Q (b1, b2) 22 [zR 98, none, none] [] 137 h) (kf : s0 = 0 → Wp mX12_readsWord (kR fr M1 M2) Q (b1, b2) 21 [zR 98, none, none] [] 137 h) : Wp mX12_readsWord (kR fr M1 M2) Q (b1, b2) 18 [zR 98, x1, x2] [zI s0] 137 h := by
  refine s_fgt (fgt_c (fgt_n _ (fgt_n _ fgt_0))) ?_
  exact s_if_ne (tgt := 22) dX12_readsWord_18 (by decide) r1 kt kf
theorem bX12_readsWord_21 {fr M1 M2 b1 b2 : Nat} {Q : RS → Nat → AH → Prop} {h : AH} {x0 x1 x2 : AV}   (hq : Q (.inl none) 137 h) : Wp mX12_readsWord (kR fr M1 M2) Q (b1, b2) 21 [x0, x1, x2] [] 137 h := by
  refine s_fgt (fgt_n _ (fgt_n _ (fgt_n _ fgt_0))) ?_
  exact s_return dX12_readsWord_21 rfl hq (fun z => by cases z)
theorem bX12_readsWord_22 {fr M1 M2 b1 b2 : Nat} {Q : RS → Nat → AH → Prop} {h : AH} {x1 x2 : AV} {R : AH → Prop}   (hS : Sp mX12_steps true (fr - 1) 0 0 [zR 98] 137 h (rV R)) (hf : 1 ≤ fr := by omega) (kk : ∀ h' : AH, R h' → Wp mX12_readsWord (kR fr M1 M2) Q (b1, b2) 26 [zR 98, none, none] [] 137 h') : Wp mX12_readsWord (kR fr M1 M2) Q (b1, b2) 22 [zR 98, x1, x2] [] 137 h := by
  refine s_fgt (fgt_c (fgt_n _ (fgt_n _ fgt_0))) ?_
  refine s_aload_n (x := 98) dX12_readsWord_22 rfl ?_
  exact s_callV (as := []) (st := []) (o := 98) dX12_readsWord_23 kX12_194 rfl ⟨12, 87, TX12, e98, rfl, by decide⟩ rfl rfl (Nat.le_of_ble_eq_true rfl) hS (show fr - 1 + 1 ≤ fr by omega) (Nat.zero_le _) (Nat.zero_le _) (fun v n' h' hP _ => by obtain ⟨e, rfl, hR⟩ := hP; cases e; exact kk h' hR) (fun E n' h' _ z => (rV_nt _ _ _ z).elim)
theorem bX12_readsWord_26 {fr M1 M2 b1 b2 : Nat} {Q : RS → Nat → AH → Prop} {h : AH} {x1 x2 : AV} {R : Int → AH → Prop}   (hS : Sp mX12_number true (fr - 1) 0 0 [zR 98, zI 0, zI 3] 137 h (rI R)) (hf : 1 ≤ fr := by omega) (kk : ∀ (x : Int) (h' : AH), R x h' → Wp mX12_readsWord (kR fr M1 M2) Q (b1, b2) 45 [zR 98, zI (6 * (h 98 29)), none] [zI x, zI (6 * (h 98 29)), zR 110] 137 h') : Wp mX12_readsWord (kR fr M1 M2) Q (b1, b2) 26 [zR 98, x1, x2] [] 137 h := by
  refine s_fgt (fgt_c (fgt_n _ (fgt_n _ fgt_0))) ?_
  refine s_bipush dX12_readsWord_26 (by decide) ?_
  refine s_aload_n (x := 98) dX12_readsWord_28 rfl ?_
  refine s_get (c := 98) dX12_readsWord_29 lX12_216 e98 (by decide) ?_
  refine s_imul dX12_readsWord_32 ?_
  refine s_istore_n dX12_readsWord_33 rfl (by decide) ?_
  refine s_aload_n (x := 98) dX12_readsWord_34 rfl ?_
  refine s_getFd (c := 98) (d := 110) dX12_readsWord_35 lX12_50 e98 (Or.inl rfl) (by decide) (by decide) ?_
  refine s_iload_n (x := 6 * (h 98 29)) dX12_readsWord_38 rfl ?_
  refine s_aload_n (x := 98) dX12_readsWord_39 rfl ?_
  refine s_iconst dX12_readsWord_40 ?_
  refine s_iconst dX12_readsWord_41 ?_
  exact s_callV (as := [zI 0, zI 3]) (st := [zI (6 * (h 98 29)), zR 110]) (o := 98) dX12_readsWord_42 kX12_206 rfl ⟨12, 87, TX12, e98, rfl, by decide⟩ rfl rfl (Nat.le_of_ble_eq_true rfl) hS (show fr - 1 + 1 ≤ fr by omega) (Nat.zero_le _) (Nat.zero_le _) (fun v n' h' hP _ => by obtain ⟨x, e, rfl, hR⟩ := hP; cases e; exact kk x h' hR) (fun E n' h' _ z => (rI_nt _ _ _ z).elim)
theorem bX12_readsWord_45 {fr M1 M2 b1 b2 : Nat} {Q : RS → Nat → AH → Prop} {h : AH} {l1 s2 s1 s0 : Int} {N1 : Nat} {x2 : AV} {R : Int → AH → Prop} (c1 : cel 137 s2 (100, N1) := by first | assumption | omega) (r1 : 0 ≤ s1 ∧ s1 < N1 := by omega) (r2 : 0 ≤ l1 + 1 ∧ l1 + 1 < 48 := by omega) (hS : Sp mX12_isGood true (fr - 1) 0 0 [zR 98] 137 (up (up h s2 s1 s0) 110 (l1 + 1) 0) (rI R)) (hf : 1 ≤ fr := by omega) (kk : ∀ (x : Int) (h' : AH), R x h' → Wp mX12_readsWord (kR fr M1 M2) Q (b1, b2) 59 [zR 98, zI l1, none] [zI x] 137 h') : Wp mX12_readsWord (kR fr M1 M2) Q (b1, b2) 45 [zR 98, zI l1, x2] [zI s0, zI s1, zR s2] 137 h := by
  refine s_fgt (fgt_c (fgt_c (fgt_n _ fgt_0))) ?_
  refine s_iast (c := s2) (i := s1) dX12_readsWord_45 c1 r1.1 r1.2 ?_
  refine s_aload_n (x := 98) dX12_readsWord_46 rfl ?_
  refine s_getFd (c := 98) (d := 110) dX12_readsWord_47 lX12_50 e98 (Or.inl rfl) (by decide) (by decide) ?_
  refine s_iload_n (x := l1) dX12_readsWord_50 rfl ?_
  refine s_iconst dX12_readsWord_51 ?_
  refine s_iadd dX12_readsWord_52 ?_
  refine s_iconst dX12_readsWord_53 ?_
  refine s_iast (c := 110) (i := l1 + 1) dX12_readsWord_54 e110 r2.1 r2.2 ?_
  refine s_aload_n (x := 98) dX12_readsWord_55 rfl ?_
  exact s_callV (as := []) (st := []) (o := 98) dX12_readsWord_56 kX12_190 rfl ⟨12, 87, TX12, e98, rfl, by decide⟩ rfl rfl (Nat.le_of_ble_eq_true rfl) hS (show fr - 1 + 1 ≤ fr by omega) (Nat.zero_le _) (Nat.zero_le _) (fun v n' h' hP _ => by obtain ⟨x, e, rfl, hR⟩ := hP; cases e; exact kk x h' hR) (fun E n' h' _ z => (rI_nt _ _ _ z).elim)
theorem bX12_readsWord_59 {fr M1 M2 b1 b2 : Nat} {Q : RS → Nat → AH → Prop} {h : AH} {l1 s0 : Int} {x2 : AV}   (kk : Wp mX12_readsWord (kR fr M1 M2) Q (b1, b2) 60 [zR 98, zI l1, zI s0] [] 137 h) : Wp mX12_readsWord (kR fr M1 M2) Q (b1, b2) 59 [zR 98, zI l1, x2] [zI s0] 137 h := by
  refine s_fgt (fgt_c (fgt_c (fgt_n _ fgt_0))) ?_
  refine s_istore_n dX12_readsWord_59 rfl (by decide) ?_
  exact kk
theorem bX12_readsWord_60 {fr M1 M2 b1 b2 : Nat} {Q : RS → Nat → AH → Prop} {h : AH} {l1 l2 : Int}  (r1 : -2147483648 ≤ l2 ∧ l2 < 2147483648 := by omega) (kt : l2 = 0 → Wp mX12_readsWord (kR fr M1 M2) Q (b1, b2) 152 [zR 98, zI l1, zI l2] [] 137 h) (kf : ¬ l2 = 0 → Wp mX12_readsWord (kR fr M1 M2) Q (b1, b2) 64 [zR 98, zI l1, zI l2] [] 137 h) : Wp mX12_readsWord (kR fr M1 M2) Q (b1, b2) 60 [zR 98, zI l1, zI l2] [] 137 h := by
  refine s_iload_n (x := l2) dX12_readsWord_60 rfl ?_
  exact s_if_eq (tgt := 152) dX12_readsWord_61 (by decide) r1 kt kf
theorem bX12_readsWord_64 {fr M1 M2 b1 b2 : Nat} {Q : RS → Nat → AH → Prop} {h : AH} {l1 : Int} {x2 : AV}  (r1 : 0 ≤ l1 + 1 ∧ l1 + 1 < 48 := by omega) (r2 : -2147483648 ≤ h 110 (l1 + 1) ∧ h 110 (l1 + 1) < 2147483648 := by omega) (kt : ¬ h 110 (l1 + 1) = 4 → Wp mX12_readsWord (kR fr M1 M2) Q (b1, b2) 84 [zR 98, zI l1, none] [] 137 h) (kf : h 110 (l1 + 1) = 4 → Wp mX12_readsWord (kR fr M1 M2) Q (b1, b2) 76 [zR 98, zI l1, none] [] 137 h) : Wp mX12_readsWord (kR fr M1 M2) Q (b1, b2) 64 [zR 98, zI l1, x2] [] 137 h := by
  refine s_fgt (fgt_c (fgt_c (fgt_n _ fgt_0))) ?_
  refine s_aload_n (x := 98) dX12_readsWord_64 rfl ?_
  refine s_getFd (c := 98) (d := 110) dX12_readsWord_65 lX12_50 e98 (Or.inl rfl) (by decide) (by decide) ?_
  refine s_iload_n (x := l1) dX12_readsWord_68 rfl ?_
  refine s_iconst dX12_readsWord_69 ?_
  refine s_iadd dX12_readsWord_70 ?_
  refine s_iald (c := 110) (i := l1 + 1) dX12_readsWord_71 e110 r1.1 r1.2 ?_
  refine s_iconst dX12_readsWord_72 ?_
  exact s_icmp_ne (tgt := 84) dX12_readsWord_73 (by decide) r2 ⟨by decide, by decide⟩ kt kf
theorem bX12_readsWord_76 {fr M1 M2 b1 b2 : Nat} {Q : RS → Nat → AH → Prop} {h : AH} {l1 : Int} {x2 : AV} {R : AH → Prop}   (hS : Sp mX12_wrong true (fr - 1) 0 0 [zR 98, zI 2] 137 h (rV R)) (hf : 1 ≤ fr := by omega) (kk : ∀ h' : AH, R h' → Wp mX12_readsWord (kR fr M1 M2) Q (b1, b2) 81 [zR 98, zI l1, none] [] 137 h') : Wp mX12_readsWord (kR fr M1 M2) Q (b1, b2) 76 [zR 98, zI l1, x2] [] 137 h := by
  refine s_fgt (fgt_c (fgt_c (fgt_n _ fgt_0))) ?_
  refine s_aload_n (x := 98) dX12_readsWord_76 rfl ?_
  refine s_iconst dX12_readsWord_77 ?_
  exact s_callV (as := [zI 2]) (st := []) (o := 98) dX12_readsWord_78 kX12_197 rfl ⟨12, 87, TX12, e98, rfl, by decide⟩ rfl rfl (Nat.le_of_ble_eq_true rfl) hS (show fr - 1 + 1 ≤ fr by omega) (Nat.zero_le _) (Nat.zero_le _) (fun v n' h' hP _ => by obtain ⟨e, rfl, hR⟩ := hP; cases e; exact kk h' hR) (fun E n' h' _ z => (rV_nt _ _ _ z).elim)
theorem bX12_readsWord_81 {fr M1 M2 b1 b2 : Nat} {Q : RS → Nat → AH → Prop} {h : AH} {l1 : Int} {x2 : AV}   (kk : Wp mX12_readsWord (kR fr M1 M2) Q (b1, b2) 128 [zR 98, zI l1, none] [] 137 h) : Wp mX12_readsWord (kR fr M1 M2) Q (b1, b2) 81 [zR 98, zI l1, x2] [] 137 h := by
  refine s_fgt (fgt_c (fgt_c (fgt_n _ fgt_0))) ?_
  exact s_goto (tgt := 128) dX12_readsWord_81 (by decide) kk
theorem bX12_readsWord_84 {fr M1 M2 b1 b2 : Nat} {Q : RS → Nat → AH → Prop} {h : AH} {l1 : Int} {x2 : AV} {R : Int → AH → Prop}   (hS : Sp mX12_soundHere true (fr - 1) 0 0 [zR 98] 137 h (rI R)) (hf : 1 ≤ fr := by omega) (kk : ∀ (x : Int) (h' : AH), R x h' → Wp mX12_readsWord (kR fr M1 M2) Q (b1, b2) 88 [zR 98, zI l1, none] [zI x] 137 h') : Wp mX12_readsWord (kR fr M1 M2) Q (b1, b2) 84 [zR 98, zI l1, x2] [] 137 h := by
  refine s_fgt (fgt_c (fgt_c (fgt_n _ fgt_0))) ?_
  refine s_aload_n (x := 98) dX12_readsWord_84 rfl ?_
  exact s_callV (as := []) (st := []) (o := 98) dX12_readsWord_85 kX12_213 rfl ⟨12, 87, TX12, e98, rfl, by decide⟩ rfl rfl (Nat.le_of_ble_eq_true rfl) hS (show fr - 1 + 1 ≤ fr by omega) (Nat.zero_le _) (Nat.zero_le _) (fun v n' h' hP _ => by obtain ⟨x, e, rfl, hR⟩ := hP; cases e; exact kk x h' hR) (fun E n' h' _ z => (rI_nt _ _ _ z).elim)
theorem bX12_readsWord_88 {fr M1 M2 b1 b2 : Nat} {Q : RS → Nat → AH → Prop} {h : AH} {l1 s0 : Int} {x2 : AV}  (r1 : -2147483648 ≤ s0 ∧ s0 < 2147483648 := by omega) (kt : s0 = 0 → Wp mX12_readsWord (kR fr M1 M2) Q (b1, b2) 128 [zR 98, zI l1, none] [] 137 h) (kf : ¬ s0 = 0 → Wp mX12_readsWord (kR fr M1 M2) Q (b1, b2) 91 [zR 98, zI l1, none] [] 137 h) : Wp mX12_readsWord (kR fr M1 M2) Q (b1, b2) 88 [zR 98, zI l1, x2] [zI s0] 137 h := by
  refine s_fgt (fgt_c (fgt_c (fgt_n _ fgt_0))) ?_
  exact s_if_eq (tgt := 128) dX12_readsWord_88 (by decide) r1 kt kf
theorem bX12_readsWord_91 {fr M1 M2 b1 b2 : Nat} {Q : RS → Nat → AH → Prop} {h : AH} {l1 : Int} {x2 : AV} {R : AH → Prop}  (r1 : 0 ≤ l1 + 1 ∧ l1 + 1 < 48 := by omega) (r2 : 0 ≤ (l1 + 2) + (h 110 (l1 + 1)) ∧ (l1 + 2) + (h 110 (l1 + 1)) < 48 := by omega) (hS : Sp mX12_steps true (fr - 1) 0 0 [zR 98] 137 (up (up h 110 ((l1 + 2) + (h 110 (l1 + 1))) (h 98 25)) 110 (l1 + 1) (((up h 110 ((l1 + 2) + (h 110 (l1 + 1))) (h 98 25)) 110 (l1 + 1)) + 1)) (rV R)) (hf : 1 ≤ fr := by omega) (kk : ∀ h' : AH, R h' → Wp mX12_readsWord (kR fr M1 M2) Q (b1, b2) 128 [zR 98, zI l1, none] [] 137 h') : Wp mX12_readsWord (kR fr M1 M2) Q (b1, b2) 91 [zR 98, zI l1, x2] [] 137 h := by
  refine s_fgt (fgt_c (fgt_c (fgt_n _ fgt_0))) ?_
  refine s_aload_n (x := 98) dX12_readsWord_91 rfl ?_
  refine s_getFd (c := 98) (d := 110) dX12_readsWord_92 lX12_50 e98 (Or.inl rfl) (by decide) (by decide) ?_
  refine s_iload_n (x := l1) dX12_readsWord_95 rfl ?_
  refine s_iconst dX12_readsWord_96 ?_
  refine s_iadd dX12_readsWord_97 ?_
  refine s_aload_n (x := 98) dX12_readsWord_98 rfl ?_
  refine s_getFd (c := 98) (d := 110) dX12_readsWord_99 lX12_50 e98 (Or.inl rfl) (by decide) (by decide) ?_
  refine s_iload_n (x := l1) dX12_readsWord_102 rfl ?_
  refine s_iconst dX12_readsWord_103 ?_
  refine s_iadd dX12_readsWord_104 ?_
  refine s_iald (c := 110) (i := l1 + 1) dX12_readsWord_105 e110 r1.1 r1.2 ?_
  refine s_iadd dX12_readsWord_106 ?_
  refine s_aload_n (x := 98) dX12_readsWord_107 rfl ?_
  refine s_get (c := 98) dX12_readsWord_108 lX12_163 e98 (by decide) ?_
  refine s_iast (c := 110) (i := (l1 + 2) + (h 110 (l1 + 1))) dX12_readsWord_111 e110 r2.1 r2.2 ?_
  refine s_aload_n (x := 98) dX12_readsWord_112 rfl ?_
  refine s_getFd (c := 98) (d := 110) dX12_readsWord_113 lX12_50 e98 (Or.inl rfl) (by decide) (by decide) ?_
  refine s_iload_n (x := l1) dX12_readsWord_116 rfl ?_
  refine s_iconst dX12_readsWord_117 ?_
  refine s_iadd dX12_readsWord_118 ?_
  refine s_dup2 dX12_readsWord_119 rfl rfl ?_
  refine s_iald (c := 110) (i := l1 + 1) dX12_readsWord_120 e110 r1.1 r1.2 ?_
  refine s_iconst dX12_readsWord_121 ?_
  refine s_iadd dX12_readsWord_122 ?_
  refine s_iast (c := 110) (i := l1 + 1) dX12_readsWord_123 e110 r1.1 r1.2 ?_
  refine s_aload_n (x := 98) dX12_readsWord_124 rfl ?_
  exact s_callV (as := []) (st := []) (o := 98) dX12_readsWord_125 kX12_194 rfl ⟨12, 87, TX12, e98, rfl, by decide⟩ rfl rfl (Nat.le_of_ble_eq_true rfl) hS (show fr - 1 + 1 ≤ fr by omega) (Nat.zero_le _) (Nat.zero_le _) (fun v n' h' hP _ => by obtain ⟨e, rfl, hR⟩ := hP; cases e; exact kk h' hR) (fun E n' h' _ z => (rV_nt _ _ _ z).elim)
theorem bX12_readsWord_128 {fr M1 M2 b1 b2 : Nat} {Q : RS → Nat → AH → Prop} {h : AH} {l1 : Int} {x2 : AV} {R : Int → AH → Prop}   (hS : Sp mX12_isGood true (fr - 1) 0 0 [zR 98] 137 h (rI R)) (hf : 1 ≤ fr := by omega) (kk : ∀ (x : Int) (h' : AH), R x h' → Wp mX12_readsWord (kR fr M1 M2) Q (b1, b2) 132 [zR 98, zI l1, none] [zI x] 137 h') : Wp mX12_readsWord (kR fr M1 M2) Q (b1, b2) 128 [zR 98, zI l1, x2] [] 137 h := by
  refine s_fgt (fgt_c (fgt_c (fgt_n _ fgt_0))) ?_
  refine s_aload_n (x := 98) dX12_readsWord_128 rfl ?_
  exact s_callV (as := []) (st := []) (o := 98) dX12_readsWord_129 kX12_190 rfl ⟨12, 87, TX12, e98, rfl, by decide⟩ rfl rfl (Nat.le_of_ble_eq_true rfl) hS (show fr - 1 + 1 ≤ fr by omega) (Nat.zero_le _) (Nat.zero_le _) (fun v n' h' hP _ => by obtain ⟨x, e, rfl, hR⟩ := hP; cases e; exact kk x h' hR) (fun E n' h' _ z => (rI_nt _ _ _ z).elim)
theorem bX12_readsWord_132 {fr M1 M2 b1 b2 : Nat} {Q : RS → Nat → AH → Prop} {h : AH} {l1 s0 : Int} {x2 : AV}  (r1 : -2147483648 ≤ s0 ∧ s0 < 2147483648 := by omega) (kt : s0 = 0 → Wp mX12_readsWord (kR fr M1 M2) Q (b1, b2) 147 [zR 98, zI l1, none] [] 137 h) (kf : ¬ s0 = 0 → Wp mX12_readsWord (kR fr M1 M2) Q (b1, b2) 135 [zR 98, zI l1, none] [] 137 h) : Wp mX12_readsWord (kR fr M1 M2) Q (b1, b2) 132 [zR 98, zI l1, x2] [zI s0] 137 h := by
  refine s_fgt (fgt_c (fgt_c (fgt_n _ fgt_0))) ?_
  exact s_if_eq (tgt := 147) dX12_readsWord_132 (by decide) r1 kt kf
theorem bX12_readsWord_135 {fr M1 M2 b1 b2 : Nat} {Q : RS → Nat → AH → Prop} {h : AH} {l1 : Int} {x2 : AV}  (r1 : -2147483648 ≤ h 98 22 ∧ h 98 22 < 2147483648 := by omega) (kt : ¬ h 98 22 = 2 → Wp mX12_readsWord (kR fr M1 M2) Q (b1, b2) 147 [zR 98, zI l1, none] [] 137 h) (kf : h 98 22 = 2 → Wp mX12_readsWord (kR fr M1 M2) Q (b1, b2) 143 [zR 98, zI l1, none] [] 137 h) : Wp mX12_readsWord (kR fr M1 M2) Q (b1, b2) 135 [zR 98, zI l1, x2] [] 137 h := by
  refine s_fgt (fgt_c (fgt_c (fgt_n _ fgt_0))) ?_
  refine s_aload_n (x := 98) dX12_readsWord_135 rfl ?_
  refine s_get (c := 98) dX12_readsWord_136 lX12_166 e98 (by decide) ?_
  refine s_iconst dX12_readsWord_139 ?_
  exact s_icmp_ne (tgt := 147) dX12_readsWord_140 (by decide) r1 ⟨by decide, by decide⟩ kt kf
theorem bX12_readsWord_143 {fr M1 M2 b1 b2 : Nat} {Q : RS → Nat → AH → Prop} {h : AH} {l1 : Int} {x2 : AV}   (kk : Wp mX12_readsWord (kR fr M1 M2) Q (b1, b2) 148 [zR 98, zI l1, none] [zI 1] 137 h) : Wp mX12_readsWord (kR fr M1 M2) Q (b1, b2) 143 [zR 98, zI l1, x2] [] 137 h := by
  refine s_fgt (fgt_c (fgt_c (fgt_n _ fgt_0))) ?_
  refine s_iconst dX12_readsWord_143 ?_
  exact s_goto (tgt := 148) dX12_readsWord_144 (by decide) kk
theorem bX12_readsWord_147 {fr M1 M2 b1 b2 : Nat} {Q : RS → Nat → AH → Prop} {h : AH} {l1 : Int} {x2 : AV}   (kk : Wp mX12_readsWord (kR fr M1 M2) Q (b1, b2) 148 [zR 98, zI l1, none] [zI 0] 137 h) : Wp mX12_readsWord (kR fr M1 M2) Q (b1, b2) 147 [zR 98, zI l1, x2] [] 137 h := by
  refine s_fgt (fgt_c (fgt_c (fgt_n _ fgt_0))) ?_
  refine s_iconst dX12_readsWord_147 ?_
  exact kk
theorem bX12_readsWord_148 {fr M1 M2 b1 b2 : Nat} {Q : RS → Nat → AH → Prop} {h : AH} {l1 s0 : Int} {x2 : AV}   (kk : Wp mX12_readsWord (kR fr M1 M2) Q (b1, b2) 60 [zR 98, zI l1, zI s0] [] 137 h) : Wp mX12_readsWord (kR fr M1 M2) Q (b1, b2) 148 [zR 98, zI l1, x2] [zI s0] 137 h := by
  refine s_fgt (fgt_c (fgt_c (fgt_n _ fgt_0))) ?_
  refine s_istore_n dX12_readsWord_148 rfl (by decide) ?_
  exact s_goto (tgt := 60) dX12_readsWord_149 (by decide) kk
theorem bX12_readsWord_152 {fr M1 M2 b1 b2 : Nat} {Q : RS → Nat → AH → Prop} {h : AH} {x1 x2 : AV} {R : Int → AH → Prop}   (hS : Sp mX12_isGood true (fr - 1) 0 0 [zR 98] 137 h (rI R)) (hf : 1 ≤ fr := by omega) (kk : ∀ (x : Int) (h' : AH), R x h' → Wp mX12_readsWord (kR fr M1 M2) Q (b1, b2) 156 [zR 98, none, none] [zI x] 137 h') : Wp mX12_readsWord (kR fr M1 M2) Q (b1, b2) 152 [zR 98, x1, x2] [] 137 h := by
  refine s_fgt (fgt_c (fgt_n _ (fgt_n _ fgt_0))) ?_
  refine s_aload_n (x := 98) dX12_readsWord_152 rfl ?_
  exact s_callV (as := []) (st := []) (o := 98) dX12_readsWord_153 kX12_190 rfl ⟨12, 87, TX12, e98, rfl, by decide⟩ rfl rfl (Nat.le_of_ble_eq_true rfl) hS (show fr - 1 + 1 ≤ fr by omega) (Nat.zero_le _) (Nat.zero_le _) (fun v n' h' hP _ => by obtain ⟨x, e, rfl, hR⟩ := hP; cases e; exact kk x h' hR) (fun E n' h' _ z => (rI_nt _ _ _ z).elim)
theorem bX12_readsWord_156 {fr M1 M2 b1 b2 : Nat} {Q : RS → Nat → AH → Prop} {h : AH} {s0 : Int} {x1 x2 : AV}  (r1 : -2147483648 ≤ s0 ∧ s0 < 2147483648 := by omega) (kt : s0 = 0 → Wp mX12_readsWord (kR fr M1 M2) Q (b1, b2) 169 [zR 98, none, none] [] 137 h) (kf : ¬ s0 = 0 → Wp mX12_readsWord (kR fr M1 M2) Q (b1, b2) 159 [zR 98, none, none] [] 137 h) : Wp mX12_readsWord (kR fr M1 M2) Q (b1, b2) 156 [zR 98, x1, x2] [zI s0] 137 h := by
  refine s_fgt (fgt_c (fgt_n _ (fgt_n _ fgt_0))) ?_
  exact s_if_eq (tgt := 169) dX12_readsWord_156 (by decide) r1 kt kf
theorem bX12_readsWord_159 {fr M1 M2 b1 b2 : Nat} {Q : RS → Nat → AH → Prop} {h : AH} {x1 x2 : AV}   (kk : Wp mX12_readsWord (kR fr M1 M2) Q (b1, b2) 169 [zR 98, none, none] [] 137 (up h 98 29 ((h 98 29) + 1))) : Wp mX12_readsWord (kR fr M1 M2) Q (b1, b2) 159 [zR 98, x1, x2] [] 137 h := by
  refine s_fgt (fgt_c (fgt_n _ (fgt_n _ fgt_0))) ?_
  refine s_aload_n (x := 98) dX12_readsWord_159 rfl ?_
  refine s_dup dX12_readsWord_160 rfl ?_
  refine s_get (c := 98) dX12_readsWord_161 lX12_216 e98 (by decide) ?_
  refine s_iconst dX12_readsWord_164 ?_
  refine s_iadd dX12_readsWord_165 ?_
  refine s_put (c := 98) dX12_readsWord_166 lX12_216 e98 ?_
  exact kk
theorem bX12_readsWord_169 {fr M1 M2 b1 b2 : Nat} {Q : RS → Nat → AH → Prop} {h : AH} {x0 x1 x2 : AV}   (hq : Q (.inl none) 137 h) : Wp mX12_readsWord (kR fr M1 M2) Q (b1, b2) 169 [x0, x1, x2] [] 137 h := by
  refine s_fgt (fgt_n _ (fgt_n _ (fgt_n _ fgt_0))) ?_
  exact s_return dX12_readsWord_169 rfl hq (fun z => by cases z)
theorem dX12_readsForm_0 : decode mX12_readsForm.cd 0 = .ok (.aload_n 0, 1) := by decide +kernel
theorem dX12_readsForm_1 : decode mX12_readsForm.cd 1 = .ok (.getfield 219, 3) := by decide +kernel
theorem dX12_readsForm_4 : decode mX12_readsForm.cd 4 = .ok (.bipush 6, 2) := by decide +kernel
theorem dX12_readsForm_6 : decode mX12_readsForm.cd 6 = .ok (.if_icmp .ne 8, 3) := by decide +kernel
theorem dX12_readsForm_9 : decode mX12_readsForm.cd 9 = .ok (.aload_n 0, 1) := by decide +kernel
theorem dX12_readsForm_10 : decode mX12_readsForm.cd 10 = .ok (.iconst 2, 1) := by decide +kernel
theorem dX12_readsForm_11 : decode mX12_readsForm.cd 11 = .ok (.invokevirtual 197, 3) := by decide +kernel
theorem dX12_readsForm_14 : decode mX12_readsForm.cd 14 = .ok (.aload_n 0, 1) := by decide +kernel
theorem dX12_readsForm_15 : decode mX12_readsForm.cd 15 = .ok (.invokevirtual 190, 3) := by decide +kernel
theorem dX12_readsForm_18 : decode mX12_readsForm.cd 18 = .ok (.ifCond .ne 4, 3) := by decide +kernel
theorem dX12_readsForm_21 : decode mX12_readsForm.cd 21 = .ok (.return_, 1) := by decide +kernel
theorem dX12_readsForm_22 : decode mX12_readsForm.cd 22 = .ok (.aload_n 0, 1) := by decide +kernel
theorem dX12_readsForm_23 : decode mX12_readsForm.cd 23 = .ok (.invokevirtual 194, 3) := by decide +kernel
theorem dX12_readsForm_26 : decode mX12_readsForm.cd 26 = .ok (.iconst 4, 1) := by decide +kernel
theorem dX12_readsForm_27 : decode mX12_readsForm.cd 27 = .ok (.aload_n 0, 1) := by decide +kernel
theorem dX12_readsForm_28 : decode mX12_readsForm.cd 28 = .ok (.getfield 219, 3) := by decide +kernel
theorem dX12_readsForm_31 : decode mX12_readsForm.cd 31 = .ok (.imul, 1) := by decide +kernel
theorem dX12_readsForm_32 : decode mX12_readsForm.cd 32 = .ok (.istore_n 1, 1) := by decide +kernel
theorem dX12_readsForm_33 : decode mX12_readsForm.cd 33 = .ok (.aload_n 0, 1) := by decide +kernel
theorem dX12_readsForm_34 : decode mX12_readsForm.cd 34 = .ok (.getfield 53, 3) := by decide +kernel
theorem dX12_readsForm_37 : decode mX12_readsForm.cd 37 = .ok (.iload_n 1, 1) := by decide +kernel
theorem dX12_readsForm_38 : decode mX12_readsForm.cd 38 = .ok (.iconst 0, 1) := by decide +kernel
theorem dX12_readsForm_39 : decode mX12_readsForm.cd 39 = .ok (.iastore, 1) := by decide +kernel
theorem dX12_readsForm_40 : decode mX12_readsForm.cd 40 = .ok (.iconst 1, 1) := by decide +kernel
theorem dX12_readsForm_41 : decode mX12_readsForm.cd 41 = .ok (.istore_n 2, 1) := by decide +kernel
theorem dX12_readsForm_42 : decode mX12_readsForm.cd 42 = .ok (.iload_n 2, 1) := by decide +kernel
theorem dX12_readsForm_43 : decode mX12_readsForm.cd 43 = .ok (.ifCond .eq 82, 3) := by decide +kernel
theorem dX12_readsForm_46 : decode mX12_readsForm.cd 46 = .ok (.aload_n 0, 1) := by decide +kernel
theorem dX12_readsForm_47 : decode mX12_readsForm.cd 47 = .ok (.getfield 53, 3) := by decide +kernel
theorem dX12_readsForm_50 : decode mX12_readsForm.cd 50 = .ok (.iload_n 1, 1) := by decide +kernel
theorem dX12_readsForm_51 : decode mX12_readsForm.cd 51 = .ok (.iaload, 1) := by decide +kernel
theorem dX12_readsForm_52 : decode mX12_readsForm.cd 52 = .ok (.iconst 3, 1) := by decide +kernel
theorem dX12_readsForm_53 : decode mX12_readsForm.cd 53 = .ok (.if_icmp .ne 8, 3) := by decide +kernel
theorem dX12_readsForm_56 : decode mX12_readsForm.cd 56 = .ok (.aload_n 0, 1) := by decide +kernel
theorem dX12_readsForm_57 : decode mX12_readsForm.cd 57 = .ok (.iconst 2, 1) := by decide +kernel
theorem dX12_readsForm_58 : decode mX12_readsForm.cd 58 = .ok (.invokevirtual 197, 3) := by decide +kernel
theorem dX12_readsForm_61 : decode mX12_readsForm.cd 61 = .ok (.aload_n 0, 1) := by decide +kernel
theorem dX12_readsForm_62 : decode mX12_readsForm.cd 62 = .ok (.iconst 0, 1) := by decide +kernel
theorem dX12_readsForm_63 : decode mX12_readsForm.cd 63 = .ok (.iconst 3, 1) := by decide +kernel
theorem dX12_readsForm_64 : decode mX12_readsForm.cd 64 = .ok (.invokevirtual 206, 3) := by decide +kernel
theorem dX12_readsForm_67 : decode mX12_readsForm.cd 67 = .ok (.istore_n 3, 1) := by decide +kernel
theorem dX12_readsForm_68 : decode mX12_readsForm.cd 68 = .ok (.aload_n 0, 1) := by decide +kernel
theorem dX12_readsForm_69 : decode mX12_readsForm.cd 69 = .ok (.invokevirtual 190, 3) := by decide +kernel
theorem dX12_readsForm_72 : decode mX12_readsForm.cd 72 = .ok (.ifCond .eq 29, 3) := by decide +kernel
theorem dX12_readsForm_75 : decode mX12_readsForm.cd 75 = .ok (.aload_n 0, 1) := by decide +kernel
theorem dX12_readsForm_76 : decode mX12_readsForm.cd 76 = .ok (.getfield 53, 3) := by decide +kernel
theorem dX12_readsForm_79 : decode mX12_readsForm.cd 79 = .ok (.iload_n 1, 1) := by decide +kernel
theorem dX12_readsForm_80 : decode mX12_readsForm.cd 80 = .ok (.iconst 1, 1) := by decide +kernel
theorem dX12_readsForm_81 : decode mX12_readsForm.cd 81 = .ok (.iadd, 1) := by decide +kernel
theorem dX12_readsForm_82 : decode mX12_readsForm.cd 82 = .ok (.aload_n 0, 1) := by decide +kernel
theorem dX12_readsForm_83 : decode mX12_readsForm.cd 83 = .ok (.getfield 53, 3) := by decide +kernel
theorem dX12_readsForm_86 : decode mX12_readsForm.cd 86 = .ok (.iload_n 1, 1) := by decide +kernel
theorem dX12_readsForm_87 : decode mX12_readsForm.cd 87 = .ok (.iaload, 1) := by decide +kernel
theorem dX12_readsForm_88 : decode mX12_readsForm.cd 88 = .ok (.iadd, 1) := by decide +kernel
theorem dX12_readsForm_89 : decode mX12_readsForm.cd 89 = .ok (.iload_n 3, 1) := by decide +kernel
theorem dX12_readsForm_90 : decode mX12_readsForm.cd 90 = .ok (.iastore, 1) := by decide +kernel
theorem dX12_readsForm_91 : decode mX12_readsForm.cd 91 = .ok (.aload_n 0, 1) := by decide +kernel
theorem dX12_readsForm_92 : decode mX12_readsForm.cd 92 = .ok (.getfield 53, 3) := by decide +kernel
theorem dX12_readsForm_95 : decode mX12_readsForm.cd 95 = .ok (.iload_n 1, 1) := by decide +kernel
theorem dX12_readsForm_96 : decode mX12_readsForm.cd 96 = .ok (.dup2, 1) := by decide +kernel
theorem dX12_readsForm_97 : decode mX12_readsForm.cd 97 = .ok (.iaload, 1) := by decide +kernel
theorem dX12_readsForm_98 : decode mX12_readsForm.cd 98 = .ok (.iconst 1, 1) := by decide +kernel
theorem dX12_readsForm_99 : decode mX12_readsForm.cd 99 = .ok (.iadd, 1) := by decide +kernel
theorem dX12_readsForm_100 : decode mX12_readsForm.cd 100 = .ok (.iastore, 1) := by decide +kernel
theorem dX12_readsForm_101 : decode mX12_readsForm.cd 101 = .ok (.aload_n 0, 1) := by decide +kernel
theorem dX12_readsForm_102 : decode mX12_readsForm.cd 102 = .ok (.invokevirtual 190, 3) := by decide +kernel
theorem dX12_readsForm_105 : decode mX12_readsForm.cd 105 = .ok (.ifCond .eq 15, 3) := by decide +kernel
theorem dX12_readsForm_108 : decode mX12_readsForm.cd 108 = .ok (.aload_n 0, 1) := by decide +kernel
theorem dX12_readsForm_109 : decode mX12_readsForm.cd 109 = .ok (.getfield 166, 3) := by decide +kernel
theorem dX12_readsForm_112 : decode mX12_readsForm.cd 112 = .ok (.iconst 2, 1) := by decide +kernel
theorem dX12_readsForm_113 : decode mX12_readsForm.cd 113 = .ok (.if_icmp .ne 7, 3) := by decide +kernel
theorem dX12_readsForm_116 : decode mX12_readsForm.cd 116 = .ok (.iconst 1, 1) := by decide +kernel
theorem dX12_readsForm_117 : decode mX12_readsForm.cd 117 = .ok (.goto 4, 3) := by decide +kernel
theorem dX12_readsForm_120 : decode mX12_readsForm.cd 120 = .ok (.iconst 0, 1) := by decide +kernel
theorem dX12_readsForm_121 : decode mX12_readsForm.cd 121 = .ok (.istore_n 2, 1) := by decide +kernel
theorem dX12_readsForm_122 : decode mX12_readsForm.cd 122 = .ok (.goto (-80), 3) := by decide +kernel
theorem dX12_readsForm_125 : decode mX12_readsForm.cd 125 = .ok (.aload_n 0, 1) := by decide +kernel
theorem dX12_readsForm_126 : decode mX12_readsForm.cd 126 = .ok (.invokevirtual 190, 3) := by decide +kernel
theorem dX12_readsForm_129 : decode mX12_readsForm.cd 129 = .ok (.ifCond .eq 13, 3) := by decide +kernel
theorem dX12_readsForm_132 : decode mX12_readsForm.cd 132 = .ok (.aload_n 0, 1) := by decide +kernel
theorem dX12_readsForm_133 : decode mX12_readsForm.cd 133 = .ok (.dup, 1) := by decide +kernel
theorem dX12_readsForm_134 : decode mX12_readsForm.cd 134 = .ok (.getfield 219, 3) := by decide +kernel
theorem dX12_readsForm_137 : decode mX12_readsForm.cd 137 = .ok (.iconst 1, 1) := by decide +kernel
theorem dX12_readsForm_138 : decode mX12_readsForm.cd 138 = .ok (.iadd, 1) := by decide +kernel
theorem dX12_readsForm_139 : decode mX12_readsForm.cd 139 = .ok (.putfield 219, 3) := by decide +kernel
theorem dX12_readsForm_142 : decode mX12_readsForm.cd 142 = .ok (.return_, 1) := by decide +kernel
theorem bX12_readsForm_0 {fr M1 M2 b1 b2 : Nat} {Q : RS → Nat → AH → Prop} {h : AH} {x1 x2 x3 : AV}  (r1 : -2147483648 ≤ h 98 30 ∧ h 98 30 < 2147483648 := by omega) (kt : ¬ h 98 30 = 6 → Wp mX12_readsForm (kR fr M1 M2) Q (b1, b2) 14 [zR 98, none, none, none] [] 137 h) (kf : h 98 30 = 6 → Wp mX12_readsForm (kR fr M1 M2) Q (b1, b2) 9 [zR 98, none, none, none] [] 137 h) : Wp mX12_readsForm (kR fr M1 M2) Q (b1, b2) 0 [zR 98, x1, x2, x3] [] 137 h := by
  refine s_fgt (fgt_c (fgt_n _ (fgt_n _ (fgt_n _ fgt_0)))) ?_
  refine s_aload_n (x := 98) dX12_readsForm_0 rfl ?_
  refine s_get (c := 98) dX12_readsForm_1 lX12_219 e98 (by decide) ?_
  refine s_bipush dX12_readsForm_4 (by decide) ?_
  exact s_icmp_ne (tgt := 14) dX12_readsForm_6 (by decide) r1 ⟨by decide, by decide⟩ kt kf
theorem bX12_readsForm_9 {fr M1 M2 b1 b2 : Nat} {Q : RS → Nat → AH → Prop} {h : AH} {x1 x2 x3 : AV} {R : AH → Prop}   (hS : Sp mX12_wrong true (fr - 1) 0 0 [zR 98, zI 2] 137 h (rV R)) (hf : 1 ≤ fr := by omega) (kk : ∀ h' : AH, R h' → Wp mX12_readsForm (kR fr M1 M2) Q (b1, b2) 14 [zR 98, none, none, none] [] 137 h') : Wp mX12_readsForm (kR fr M1 M2) Q (b1, b2) 9 [zR 98, x1, x2, x3] [] 137 h := by
  refine s_fgt (fgt_c (fgt_n _ (fgt_n _ (fgt_n _ fgt_0)))) ?_
  refine s_aload_n (x := 98) dX12_readsForm_9 rfl ?_
  refine s_iconst dX12_readsForm_10 ?_
  exact s_callV (as := [zI 2]) (st := []) (o := 98) dX12_readsForm_11 kX12_197 rfl ⟨12, 87, TX12, e98, rfl, by decide⟩ rfl rfl (Nat.le_of_ble_eq_true rfl) hS (show fr - 1 + 1 ≤ fr by omega) (Nat.zero_le _) (Nat.zero_le _) (fun v n' h' hP _ => by obtain ⟨e, rfl, hR⟩ := hP; cases e; exact kk h' hR) (fun E n' h' _ z => (rV_nt _ _ _ z).elim)
theorem bX12_readsForm_14 {fr M1 M2 b1 b2 : Nat} {Q : RS → Nat → AH → Prop} {h : AH} {x1 x2 x3 : AV} {R : Int → AH → Prop}   (hS : Sp mX12_isGood true (fr - 1) 0 0 [zR 98] 137 h (rI R)) (hf : 1 ≤ fr := by omega) (kk : ∀ (x : Int) (h' : AH), R x h' → Wp mX12_readsForm (kR fr M1 M2) Q (b1, b2) 18 [zR 98, none, none, none] [zI x] 137 h') : Wp mX12_readsForm (kR fr M1 M2) Q (b1, b2) 14 [zR 98, x1, x2, x3] [] 137 h := by
  refine s_fgt (fgt_c (fgt_n _ (fgt_n _ (fgt_n _ fgt_0)))) ?_
  refine s_aload_n (x := 98) dX12_readsForm_14 rfl ?_
  exact s_callV (as := []) (st := []) (o := 98) dX12_readsForm_15 kX12_190 rfl ⟨12, 87, TX12, e98, rfl, by decide⟩ rfl rfl (Nat.le_of_ble_eq_true rfl) hS (show fr - 1 + 1 ≤ fr by omega) (Nat.zero_le _) (Nat.zero_le _) (fun v n' h' hP _ => by obtain ⟨x, e, rfl, hR⟩ := hP; cases e; exact kk x h' hR) (fun E n' h' _ z => (rI_nt _ _ _ z).elim)
theorem bX12_readsForm_18 {fr M1 M2 b1 b2 : Nat} {Q : RS → Nat → AH → Prop} {h : AH} {s0 : Int} {x1 x2 x3 : AV}  (r1 : -2147483648 ≤ s0 ∧ s0 < 2147483648 := by omega) (kt : ¬ s0 = 0 → Wp mX12_readsForm (kR fr M1 M2) Q (b1, b2) 22 [zR 98, none, none, none] [] 137 h) (kf : s0 = 0 → Wp mX12_readsForm (kR fr M1 M2) Q (b1, b2) 21 [zR 98, none, none, none] [] 137 h) : Wp mX12_readsForm (kR fr M1 M2) Q (b1, b2) 18 [zR 98, x1, x2, x3] [zI s0] 137 h := by
  refine s_fgt (fgt_c (fgt_n _ (fgt_n _ (fgt_n _ fgt_0)))) ?_
  exact s_if_ne (tgt := 22) dX12_readsForm_18 (by decide) r1 kt kf
theorem bX12_readsForm_21 {fr M1 M2 b1 b2 : Nat} {Q : RS → Nat → AH → Prop} {h : AH} {x0 x1 x2 x3 : AV}   (hq : Q (.inl none) 137 h) : Wp mX12_readsForm (kR fr M1 M2) Q (b1, b2) 21 [x0, x1, x2, x3] [] 137 h := by
  refine s_fgt (fgt_n _ (fgt_n _ (fgt_n _ (fgt_n _ fgt_0)))) ?_
  exact s_return dX12_readsForm_21 rfl hq (fun z => by cases z)
theorem bX12_readsForm_22 {fr M1 M2 b1 b2 : Nat} {Q : RS → Nat → AH → Prop} {h : AH} {x1 x2 x3 : AV} {R : AH → Prop}   (hS : Sp mX12_steps true (fr - 1) 0 0 [zR 98] 137 h (rV R)) (hf : 1 ≤ fr := by omega) (kk : ∀ h' : AH, R h' → Wp mX12_readsForm (kR fr M1 M2) Q (b1, b2) 26 [zR 98, none, none, none] [] 137 h') : Wp mX12_readsForm (kR fr M1 M2) Q (b1, b2) 22 [zR 98, x1, x2, x3] [] 137 h := by
  refine s_fgt (fgt_c (fgt_n _ (fgt_n _ (fgt_n _ fgt_0)))) ?_
  refine s_aload_n (x := 98) dX12_readsForm_22 rfl ?_
  exact s_callV (as := []) (st := []) (o := 98) dX12_readsForm_23 kX12_194 rfl ⟨12, 87, TX12, e98, rfl, by decide⟩ rfl rfl (Nat.le_of_ble_eq_true rfl) hS (show fr - 1 + 1 ≤ fr by omega) (Nat.zero_le _) (Nat.zero_le _) (fun v n' h' hP _ => by obtain ⟨e, rfl, hR⟩ := hP; cases e; exact kk h' hR) (fun E n' h' _ z => (rV_nt _ _ _ z).elim)
theorem bX12_readsForm_26 {fr M1 M2 b1 b2 : Nat} {Q : RS → Nat → AH → Prop} {h : AH} {x1 x2 x3 : AV}  (r1 : 0 ≤ 4 * (h 98 30) ∧ 4 * (h 98 30) < 24 := by omega) (kk : Wp mX12_readsForm (kR fr M1 M2) Q (b1, b2) 42 [zR 98, zI (4 * (h 98 30)), zI 1, none] [] 137 (up h 111 (4 * (h 98 30)) 0)) : Wp mX12_readsForm (kR fr M1 M2) Q (b1, b2) 26 [zR 98, x1, x2, x3] [] 137 h := by
  refine s_fgt (fgt_c (fgt_n _ (fgt_n _ (fgt_n _ fgt_0)))) ?_
  refine s_iconst dX12_readsForm_26 ?_
  refine s_aload_n (x := 98) dX12_readsForm_27 rfl ?_
  refine s_get (c := 98) dX12_readsForm_28 lX12_219 e98 (by decide) ?_
  refine s_imul dX12_readsForm_31 ?_
  refine s_istore_n dX12_readsForm_32 rfl (by decide) ?_
  refine s_aload_n (x := 98) dX12_readsForm_33 rfl ?_
  refine s_getFd (c := 98) (d := 111) dX12_readsForm_34 lX12_53 e98 (Or.inl rfl) (by decide) (by decide) ?_
  refine s_iload_n (x := 4 * (h 98 30)) dX12_readsForm_37 rfl ?_
  refine s_iconst dX12_readsForm_38 ?_
  refine s_iast (c := 111) (i := 4 * (h 98 30)) dX12_readsForm_39 e111 r1.1 r1.2 ?_
  refine s_iconst dX12_readsForm_40 ?_
  refine s_istore_n dX12_readsForm_41 rfl (by decide) ?_
  exact kk
theorem bX12_readsForm_42 {fr M1 M2 b1 b2 : Nat} {Q : RS → Nat → AH → Prop} {h : AH} {l1 l2 : Int} {x3 : AV}  (r1 : -2147483648 ≤ l2 ∧ l2 < 2147483648 := by omega) (kt : l2 = 0 → Wp mX12_readsForm (kR fr M1 M2) Q (b1, b2) 125 [zR 98, zI l1, zI l2, none] [] 137 h) (kf : ¬ l2 = 0 → Wp mX12_readsForm (kR fr M1 M2) Q (b1, b2) 46 [zR 98, zI l1, zI l2, none] [] 137 h) : Wp mX12_readsForm (kR fr M1 M2) Q (b1, b2) 42 [zR 98, zI l1, zI l2, x3] [] 137 h := by
  refine s_fgt (fgt_c (fgt_c (fgt_c (fgt_n _ fgt_0)))) ?_
  refine s_iload_n (x := l2) dX12_readsForm_42 rfl ?_
  exact s_if_eq (tgt := 125) dX12_readsForm_43 (by decide) r1 kt kf
theorem bX12_readsForm_46 {fr M1 M2 b1 b2 : Nat} {Q : RS → Nat → AH → Prop} {h : AH} {l1 : Int} {x2 x3 : AV}  (r1 : 0 ≤ l1 ∧ l1 < 24 := by omega) (r2 : -2147483648 ≤ h 111 l1 ∧ h 111 l1 < 2147483648 := by omega) (kt : ¬ h 111 l1 = 3 → Wp mX12_readsForm (kR fr M1 M2) Q (b1, b2) 61 [zR 98, zI l1, none, none] [] 137 h) (kf : h 111 l1 = 3 → Wp mX12_readsForm (kR fr M1 M2) Q (b1, b2) 56 [zR 98, zI l1, none, none] [] 137 h) : Wp mX12_readsForm (kR fr M1 M2) Q (b1, b2) 46 [zR 98, zI l1, x2, x3] [] 137 h := by
  refine s_fgt (fgt_c (fgt_c (fgt_n _ (fgt_n _ fgt_0)))) ?_
  refine s_aload_n (x := 98) dX12_readsForm_46 rfl ?_
  refine s_getFd (c := 98) (d := 111) dX12_readsForm_47 lX12_53 e98 (Or.inl rfl) (by decide) (by decide) ?_
  refine s_iload_n (x := l1) dX12_readsForm_50 rfl ?_
  refine s_iald (c := 111) (i := l1) dX12_readsForm_51 e111 r1.1 r1.2 ?_
  refine s_iconst dX12_readsForm_52 ?_
  exact s_icmp_ne (tgt := 61) dX12_readsForm_53 (by decide) r2 ⟨by decide, by decide⟩ kt kf
theorem bX12_readsForm_56 {fr M1 M2 b1 b2 : Nat} {Q : RS → Nat → AH → Prop} {h : AH} {l1 : Int} {x2 x3 : AV} {R : AH → Prop}   (hS : Sp mX12_wrong true (fr - 1) 0 0 [zR 98, zI 2] 137 h (rV R)) (hf : 1 ≤ fr := by omega) (kk : ∀ h' : AH, R h' → Wp mX12_readsForm (kR fr M1 M2) Q (b1, b2) 61 [zR 98, zI l1, none, none] [] 137 h') : Wp mX12_readsForm (kR fr M1 M2) Q (b1, b2) 56 [zR 98, zI l1, x2, x3] [] 137 h := by
  refine s_fgt (fgt_c (fgt_c (fgt_n _ (fgt_n _ fgt_0)))) ?_
  refine s_aload_n (x := 98) dX12_readsForm_56 rfl ?_
  refine s_iconst dX12_readsForm_57 ?_
  exact s_callV (as := [zI 2]) (st := []) (o := 98) dX12_readsForm_58 kX12_197 rfl ⟨12, 87, TX12, e98, rfl, by decide⟩ rfl rfl (Nat.le_of_ble_eq_true rfl) hS (show fr - 1 + 1 ≤ fr by omega) (Nat.zero_le _) (Nat.zero_le _) (fun v n' h' hP _ => by obtain ⟨e, rfl, hR⟩ := hP; cases e; exact kk h' hR) (fun E n' h' _ z => (rV_nt _ _ _ z).elim)
theorem bX12_readsForm_61 {fr M1 M2 b1 b2 : Nat} {Q : RS → Nat → AH → Prop} {h : AH} {l1 : Int} {x2 x3 : AV} {R : Int → AH → Prop}   (hS : Sp mX12_number true (fr - 1) 0 0 [zR 98, zI 0, zI 3] 137 h (rI R)) (hf : 1 ≤ fr := by omega) (kk : ∀ (x : Int) (h' : AH), R x h' → Wp mX12_readsForm (kR fr M1 M2) Q (b1, b2) 67 [zR 98, zI l1, none, none] [zI x] 137 h') : Wp mX12_readsForm (kR fr M1 M2) Q (b1, b2) 61 [zR 98, zI l1, x2, x3] [] 137 h := by
  refine s_fgt (fgt_c (fgt_c (fgt_n _ (fgt_n _ fgt_0)))) ?_
  refine s_aload_n (x := 98) dX12_readsForm_61 rfl ?_
  refine s_iconst dX12_readsForm_62 ?_
  refine s_iconst dX12_readsForm_63 ?_
  exact s_callV (as := [zI 0, zI 3]) (st := []) (o := 98) dX12_readsForm_64 kX12_206 rfl ⟨12, 87, TX12, e98, rfl, by decide⟩ rfl rfl (Nat.le_of_ble_eq_true rfl) hS (show fr - 1 + 1 ≤ fr by omega) (Nat.zero_le _) (Nat.zero_le _) (fun v n' h' hP _ => by obtain ⟨x, e, rfl, hR⟩ := hP; cases e; exact kk x h' hR) (fun E n' h' _ z => (rI_nt _ _ _ z).elim)
theorem bX12_readsForm_67 {fr M1 M2 b1 b2 : Nat} {Q : RS → Nat → AH → Prop} {h : AH} {l1 s0 : Int} {x2 x3 : AV} {R : Int → AH → Prop}   (hS : Sp mX12_isGood true (fr - 1) 0 0 [zR 98] 137 h (rI R)) (hf : 1 ≤ fr := by omega) (kk : ∀ (x : Int) (h' : AH), R x h' → Wp mX12_readsForm (kR fr M1 M2) Q (b1, b2) 72 [zR 98, zI l1, none, zI s0] [zI x] 137 h') : Wp mX12_readsForm (kR fr M1 M2) Q (b1, b2) 67 [zR 98, zI l1, x2, x3] [zI s0] 137 h := by
  refine s_fgt (fgt_c (fgt_c (fgt_n _ (fgt_n _ fgt_0)))) ?_
  refine s_istore_n dX12_readsForm_67 rfl (by decide) ?_
  refine s_aload_n (x := 98) dX12_readsForm_68 rfl ?_
  exact s_callV (as := []) (st := []) (o := 98) dX12_readsForm_69 kX12_190 rfl ⟨12, 87, TX12, e98, rfl, by decide⟩ rfl rfl (Nat.le_of_ble_eq_true rfl) hS (show fr - 1 + 1 ≤ fr by omega) (Nat.zero_le _) (Nat.zero_le _) (fun v n' h' hP _ => by obtain ⟨x, e, rfl, hR⟩ := hP; cases e; exact kk x h' hR) (fun E n' h' _ z => (rI_nt _ _ _ z).elim)
theorem bX12_readsForm_72 {fr M1 M2 b1 b2 : Nat} {Q : RS → Nat → AH → Prop} {h : AH} {l1 l3 s0 : Int} {x2 : AV}  (r1 : -2147483648 ≤ s0 ∧ s0 < 2147483648 := by omega) (kt : s0 = 0 → Wp mX12_readsForm (kR fr M1 M2) Q (b1, b2) 101 [zR 98, zI l1, none, zI l3] [] 137 h) (kf : ¬ s0 = 0 → Wp mX12_readsForm (kR fr M1 M2) Q (b1, b2) 75 [zR 98, zI l1, none, zI l3] [] 137 h) : Wp mX12_readsForm (kR fr M1 M2) Q (b1, b2) 72 [zR 98, zI l1, x2, zI l3] [zI s0] 137 h := by
  refine s_fgt (fgt_c (fgt_c (fgt_n _ (fgt_c fgt_0)))) ?_
  exact s_if_eq (tgt := 101) dX12_readsForm_72 (by decide) r1 kt kf
theorem bX12_readsForm_75 {fr M1 M2 b1 b2 : Nat} {Q : RS → Nat → AH → Prop} {h : AH} {l1 l3 : Int} {x2 : AV}  (r1 : 0 ≤ l1 ∧ l1 < 24 := by omega) (r2 : 0 ≤ (l1 + 1) + (h 111 l1) ∧ (l1 + 1) + (h 111 l1) < 24 := by omega) (kk : Wp mX12_readsForm (kR fr M1 M2) Q (b1, b2) 101 [zR 98, zI l1, none, zI l3] [] 137 (up (up h 111 ((l1 + 1) + (h 111 l1)) l3) 111 l1 (((up h 111 ((l1 + 1) + (h 111 l1)) l3) 111 l1) + 1))) : Wp mX12_readsForm (kR fr M1 M2) Q (b1, b2) 75 [zR 98, zI l1, x2, zI l3] [] 137 h := by
  refine s_fgt (fgt_c (fgt_c (fgt_n _ (fgt_c fgt_0)))) ?_
  refine s_aload_n (x := 98) dX12_readsForm_75 rfl ?_
  refine s_getFd (c := 98) (d := 111) dX12_readsForm_76 lX12_53 e98 (Or.inl rfl) (by decide) (by decide) ?_
  refine s_iload_n (x := l1) dX12_readsForm_79 rfl ?_
  refine s_iconst dX12_readsForm_80 ?_
  refine s_iadd dX12_readsForm_81 ?_
  refine s_aload_n (x := 98) dX12_readsForm_82 rfl ?_
  refine s_getFd (c := 98) (d := 111) dX12_readsForm_83 lX12_53 e98 (Or.inl rfl) (by decide) (by decide) ?_
  refine s_iload_n (x := l1) dX12_readsForm_86 rfl ?_
  refine s_iald (c := 111) (i := l1) dX12_readsForm_87 e111 r1.1 r1.2 ?_
  refine s_iadd dX12_readsForm_88 ?_
  refine s_iload_n (x := l3) dX12_readsForm_89 rfl ?_
  refine s_iast (c := 111) (i := (l1 + 1) + (h 111 l1)) dX12_readsForm_90 e111 r2.1 r2.2 ?_
  refine s_aload_n (x := 98) dX12_readsForm_91 rfl ?_
  refine s_getFd (c := 98) (d := 111) dX12_readsForm_92 lX12_53 e98 (Or.inl rfl) (by decide) (by decide) ?_
  refine s_iload_n (x := l1) dX12_readsForm_95 rfl ?_
  refine s_dup2 dX12_readsForm_96 rfl rfl ?_
  refine s_iald (c := 111) (i := l1) dX12_readsForm_97 e111 r1.1 r1.2 ?_
  refine s_iconst dX12_readsForm_98 ?_
  refine s_iadd dX12_readsForm_99 ?_
  refine s_iast (c := 111) (i := l1) dX12_readsForm_100 e111 r1.1 r1.2 ?_
  exact kk
theorem bX12_readsForm_101 {fr M1 M2 b1 b2 : Nat} {Q : RS → Nat → AH → Prop} {h : AH} {l1 : Int} {x2 x3 : AV} {R : Int → AH → Prop}   (hS : Sp mX12_isGood true (fr - 1) 0 0 [zR 98] 137 h (rI R)) (hf : 1 ≤ fr := by omega) (kk : ∀ (x : Int) (h' : AH), R x h' → Wp mX12_readsForm (kR fr M1 M2) Q (b1, b2) 105 [zR 98, zI l1, none, none] [zI x] 137 h') : Wp mX12_readsForm (kR fr M1 M2) Q (b1, b2) 101 [zR 98, zI l1, x2, x3] [] 137 h := by
  refine s_fgt (fgt_c (fgt_c (fgt_n _ (fgt_n _ fgt_0)))) ?_
  refine s_aload_n (x := 98) dX12_readsForm_101 rfl ?_
  exact s_callV (as := []) (st := []) (o := 98) dX12_readsForm_102 kX12_190 rfl ⟨12, 87, TX12, e98, rfl, by decide⟩ rfl rfl (Nat.le_of_ble_eq_true rfl) hS (show fr - 1 + 1 ≤ fr by omega) (Nat.zero_le _) (Nat.zero_le _) (fun v n' h' hP _ => by obtain ⟨x, e, rfl, hR⟩ := hP; cases e; exact kk x h' hR) (fun E n' h' _ z => (rI_nt _ _ _ z).elim)
theorem bX12_readsForm_105 {fr M1 M2 b1 b2 : Nat} {Q : RS → Nat → AH → Prop} {h : AH} {l1 s0 : Int} {x2 x3 : AV}  (r1 : -2147483648 ≤ s0 ∧ s0 < 2147483648 := by omega) (kt : s0 = 0 → Wp mX12_readsForm (kR fr M1 M2) Q (b1, b2) 120 [zR 98, zI l1, none, none] [] 137 h) (kf : ¬ s0 = 0 → Wp mX12_readsForm (kR fr M1 M2) Q (b1, b2) 108 [zR 98, zI l1, none, none] [] 137 h) : Wp mX12_readsForm (kR fr M1 M2) Q (b1, b2) 105 [zR 98, zI l1, x2, x3] [zI s0] 137 h := by
  refine s_fgt (fgt_c (fgt_c (fgt_n _ (fgt_n _ fgt_0)))) ?_
  exact s_if_eq (tgt := 120) dX12_readsForm_105 (by decide) r1 kt kf
theorem bX12_readsForm_108 {fr M1 M2 b1 b2 : Nat} {Q : RS → Nat → AH → Prop} {h : AH} {l1 : Int} {x2 x3 : AV}  (r1 : -2147483648 ≤ h 98 22 ∧ h 98 22 < 2147483648 := by omega) (kt : ¬ h 98 22 = 2 → Wp mX12_readsForm (kR fr M1 M2) Q (b1, b2) 120 [zR 98, zI l1, none, none] [] 137 h) (kf : h 98 22 = 2 → Wp mX12_readsForm (kR fr M1 M2) Q (b1, b2) 116 [zR 98, zI l1, none, none] [] 137 h) : Wp mX12_readsForm (kR fr M1 M2) Q (b1, b2) 108 [zR 98, zI l1, x2, x3] [] 137 h := by
  refine s_fgt (fgt_c (fgt_c (fgt_n _ (fgt_n _ fgt_0)))) ?_
  refine s_aload_n (x := 98) dX12_readsForm_108 rfl ?_
  refine s_get (c := 98) dX12_readsForm_109 lX12_166 e98 (by decide) ?_
  refine s_iconst dX12_readsForm_112 ?_
  exact s_icmp_ne (tgt := 120) dX12_readsForm_113 (by decide) r1 ⟨by decide, by decide⟩ kt kf
theorem bX12_readsForm_116 {fr M1 M2 b1 b2 : Nat} {Q : RS → Nat → AH → Prop} {h : AH} {l1 : Int} {x2 x3 : AV}   (kk : Wp mX12_readsForm (kR fr M1 M2) Q (b1, b2) 121 [zR 98, zI l1, none, none] [zI 1] 137 h) : Wp mX12_readsForm (kR fr M1 M2) Q (b1, b2) 116 [zR 98, zI l1, x2, x3] [] 137 h := by
  refine s_fgt (fgt_c (fgt_c (fgt_n _ (fgt_n _ fgt_0)))) ?_
  refine s_iconst dX12_readsForm_116 ?_
  exact s_goto (tgt := 121) dX12_readsForm_117 (by decide) kk
theorem bX12_readsForm_120 {fr M1 M2 b1 b2 : Nat} {Q : RS → Nat → AH → Prop} {h : AH} {l1 : Int} {x2 x3 : AV}   (kk : Wp mX12_readsForm (kR fr M1 M2) Q (b1, b2) 121 [zR 98, zI l1, none, none] [zI 0] 137 h) : Wp mX12_readsForm (kR fr M1 M2) Q (b1, b2) 120 [zR 98, zI l1, x2, x3] [] 137 h := by
  refine s_fgt (fgt_c (fgt_c (fgt_n _ (fgt_n _ fgt_0)))) ?_
  refine s_iconst dX12_readsForm_120 ?_
  exact kk
theorem bX12_readsForm_121 {fr M1 M2 b1 b2 : Nat} {Q : RS → Nat → AH → Prop} {h : AH} {l1 s0 : Int} {x2 x3 : AV}   (kk : Wp mX12_readsForm (kR fr M1 M2) Q (b1, b2) 42 [zR 98, zI l1, zI s0, none] [] 137 h) : Wp mX12_readsForm (kR fr M1 M2) Q (b1, b2) 121 [zR 98, zI l1, x2, x3] [zI s0] 137 h := by
  refine s_fgt (fgt_c (fgt_c (fgt_n _ (fgt_n _ fgt_0)))) ?_
  refine s_istore_n dX12_readsForm_121 rfl (by decide) ?_
  exact s_goto (tgt := 42) dX12_readsForm_122 (by decide) kk
theorem bX12_readsForm_125 {fr M1 M2 b1 b2 : Nat} {Q : RS → Nat → AH → Prop} {h : AH} {x1 x2 x3 : AV} {R : Int → AH → Prop}   (hS : Sp mX12_isGood true (fr - 1) 0 0 [zR 98] 137 h (rI R)) (hf : 1 ≤ fr := by omega) (kk : ∀ (x : Int) (h' : AH), R x h' → Wp mX12_readsForm (kR fr M1 M2) Q (b1, b2) 129 [zR 98, none, none, none] [zI x] 137 h') : Wp mX12_readsForm (kR fr M1 M2) Q (b1, b2) 125 [zR 98, x1, x2, x3] [] 137 h := by
  refine s_fgt (fgt_c (fgt_n _ (fgt_n _ (fgt_n _ fgt_0)))) ?_
  refine s_aload_n (x := 98) dX12_readsForm_125 rfl ?_
  exact s_callV (as := []) (st := []) (o := 98) dX12_readsForm_126 kX12_190 rfl ⟨12, 87, TX12, e98, rfl, by decide⟩ rfl rfl (Nat.le_of_ble_eq_true rfl) hS (show fr - 1 + 1 ≤ fr by omega) (Nat.zero_le _) (Nat.zero_le _) (fun v n' h' hP _ => by obtain ⟨x, e, rfl, hR⟩ := hP; cases e; exact kk x h' hR) (fun E n' h' _ z => (rI_nt _ _ _ z).elim)
theorem bX12_readsForm_129 {fr M1 M2 b1 b2 : Nat} {Q : RS → Nat → AH → Prop} {h : AH} {s0 : Int} {x1 x2 x3 : AV}  (r1 : -2147483648 ≤ s0 ∧ s0 < 2147483648 := by omega) (kt : s0 = 0 → Wp mX12_readsForm (kR fr M1 M2) Q (b1, b2) 142 [zR 98, none, none, none] [] 137 h) (kf : ¬ s0 = 0 → Wp mX12_readsForm (kR fr M1 M2) Q (b1, b2) 132 [zR 98, none, none, none] [] 137 h) : Wp mX12_readsForm (kR fr M1 M2) Q (b1, b2) 129 [zR 98, x1, x2, x3] [zI s0] 137 h := by
  refine s_fgt (fgt_c (fgt_n _ (fgt_n _ (fgt_n _ fgt_0)))) ?_
  exact s_if_eq (tgt := 142) dX12_readsForm_129 (by decide) r1 kt kf
theorem bX12_readsForm_132 {fr M1 M2 b1 b2 : Nat} {Q : RS → Nat → AH → Prop} {h : AH} {x1 x2 x3 : AV}   (kk : Wp mX12_readsForm (kR fr M1 M2) Q (b1, b2) 142 [zR 98, none, none, none] [] 137 (up h 98 30 ((h 98 30) + 1))) : Wp mX12_readsForm (kR fr M1 M2) Q (b1, b2) 132 [zR 98, x1, x2, x3] [] 137 h := by
  refine s_fgt (fgt_c (fgt_n _ (fgt_n _ (fgt_n _ fgt_0)))) ?_
  refine s_aload_n (x := 98) dX12_readsForm_132 rfl ?_
  refine s_dup dX12_readsForm_133 rfl ?_
  refine s_get (c := 98) dX12_readsForm_134 lX12_219 e98 (by decide) ?_
  refine s_iconst dX12_readsForm_137 ?_
  refine s_iadd dX12_readsForm_138 ?_
  refine s_put (c := 98) dX12_readsForm_139 lX12_219 e98 ?_
  exact kk
theorem bX12_readsForm_142 {fr M1 M2 b1 b2 : Nat} {Q : RS → Nat → AH → Prop} {h : AH} {x0 x1 x2 x3 : AV}   (hq : Q (.inl none) 137 h) : Wp mX12_readsForm (kR fr M1 M2) Q (b1, b2) 142 [x0, x1, x2, x3] [] 137 h := by
  refine s_fgt (fgt_n _ (fgt_n _ (fgt_n _ (fgt_n _ fgt_0)))) ?_
  exact s_return dX12_readsForm_142 rfl hq (fun z => by cases z)
theorem dX12_readsAir_0 : decode mX12_readsAir.cd 0 = .ok (.aload_n 0, 1) := by decide +kernel
theorem dX12_readsAir_1 : decode mX12_readsAir.cd 1 = .ok (.invokevirtual 194, 3) := by decide +kernel
theorem dX12_readsAir_4 : decode mX12_readsAir.cd 4 = .ok (.aload_n 0, 1) := by decide +kernel
theorem dX12_readsAir_5 : decode mX12_readsAir.cd 5 = .ok (.getfield 166, 3) := by decide +kernel
theorem dX12_readsAir_8 : decode mX12_readsAir.cd 8 = .ok (.iconst 2, 1) := by decide +kernel
theorem dX12_readsAir_9 : decode mX12_readsAir.cd 9 = .ok (.if_icmp .ne 40, 3) := by decide +kernel
theorem dX12_readsAir_12 : decode mX12_readsAir.cd 12 = .ok (.aload_n 0, 1) := by decide +kernel
theorem dX12_readsAir_13 : decode mX12_readsAir.cd 13 = .ok (.getfield 176, 3) := by decide +kernel
theorem dX12_readsAir_16 : decode mX12_readsAir.cd 16 = .ok (.iconst 4, 1) := by decide +kernel
theorem dX12_readsAir_17 : decode mX12_readsAir.cd 17 = .ok (.if_icmp .gt 32, 3) := by decide +kernel
theorem dX12_readsAir_20 : decode mX12_readsAir.cd 20 = .ok (.aload_n 0, 1) := by decide +kernel
theorem dX12_readsAir_21 : decode mX12_readsAir.cd 21 = .ok (.getfield 163, 3) := by decide +kernel
theorem dX12_readsAir_24 : decode mX12_readsAir.cd 24 = .ok (.bipush 24, 2) := by decide +kernel
theorem dX12_readsAir_26 : decode mX12_readsAir.cd 26 = .ok (.if_icmp .ge 23, 3) := by decide +kernel
theorem dX12_readsAir_29 : decode mX12_readsAir.cd 29 = .ok (.aload_n 0, 1) := by decide +kernel
theorem dX12_readsAir_30 : decode mX12_readsAir.cd 30 = .ok (.getfield 222, 3) := by decide +kernel
theorem dX12_readsAir_33 : decode mX12_readsAir.cd 33 = .ok (.aload_n 0, 1) := by decide +kernel
theorem dX12_readsAir_34 : decode mX12_readsAir.cd 34 = .ok (.getfield 163, 3) := by decide +kernel
theorem dX12_readsAir_37 : decode mX12_readsAir.cd 37 = .ok (.ishr, 1) := by decide +kernel
theorem dX12_readsAir_38 : decode mX12_readsAir.cd 38 = .ok (.iconst 1, 1) := by decide +kernel
theorem dX12_readsAir_39 : decode mX12_readsAir.cd 39 = .ok (.iand, 1) := by decide +kernel
theorem dX12_readsAir_40 : decode mX12_readsAir.cd 40 = .ok (.iconst 1, 1) := by decide +kernel
theorem dX12_readsAir_41 : decode mX12_readsAir.cd 41 = .ok (.if_icmp .ne 8, 3) := by decide +kernel
theorem dX12_readsAir_44 : decode mX12_readsAir.cd 44 = .ok (.aload_n 0, 1) := by decide +kernel
theorem dX12_readsAir_45 : decode mX12_readsAir.cd 45 = .ok (.iconst 5, 1) := by decide +kernel
theorem dX12_readsAir_46 : decode mX12_readsAir.cd 46 = .ok (.invokevirtual 197, 3) := by decide +kernel
theorem dX12_readsAir_49 : decode mX12_readsAir.cd 49 = .ok (.aload_n 0, 1) := by decide +kernel
theorem dX12_readsAir_50 : decode mX12_readsAir.cd 50 = .ok (.iconst 0, 1) := by decide +kernel
theorem dX12_readsAir_51 : decode mX12_readsAir.cd 51 = .ok (.bipush 23, 2) := by decide +kernel
theorem dX12_readsAir_53 : decode mX12_readsAir.cd 53 = .ok (.invokevirtual 206, 3) := by decide +kernel
theorem dX12_readsAir_56 : decode mX12_readsAir.cd 56 = .ok (.istore_n 1, 1) := by decide +kernel
theorem dX12_readsAir_57 : decode mX12_readsAir.cd 57 = .ok (.aload_n 0, 1) := by decide +kernel
theorem dX12_readsAir_58 : decode mX12_readsAir.cd 58 = .ok (.invokevirtual 190, 3) := by decide +kernel
theorem dX12_readsAir_61 : decode mX12_readsAir.cd 61 = .ok (.ifCond .ne 4, 3) := by decide +kernel
theorem dX12_readsAir_64 : decode mX12_readsAir.cd 64 = .ok (.return_, 1) := by decide +kernel
theorem dX12_readsAir_65 : decode mX12_readsAir.cd 65 = .ok (.aload_n 0, 1) := by decide +kernel
theorem dX12_readsAir_66 : decode mX12_readsAir.cd 66 = .ok (.dup, 1) := by decide +kernel
theorem dX12_readsAir_67 : decode mX12_readsAir.cd 67 = .ok (.getfield 222, 3) := by decide +kernel
theorem dX12_readsAir_70 : decode mX12_readsAir.cd 70 = .ok (.iconst 1, 1) := by decide +kernel
theorem dX12_readsAir_71 : decode mX12_readsAir.cd 71 = .ok (.iload_n 1, 1) := by decide +kernel
theorem dX12_readsAir_72 : decode mX12_readsAir.cd 72 = .ok (.ishl, 1) := by decide +kernel
theorem dX12_readsAir_73 : decode mX12_readsAir.cd 73 = .ok (.ior, 1) := by decide +kernel
theorem dX12_readsAir_74 : decode mX12_readsAir.cd 74 = .ok (.putfield 222, 3) := by decide +kernel
theorem dX12_readsAir_77 : decode mX12_readsAir.cd 77 = .ok (.aload_n 0, 1) := by decide +kernel
theorem dX12_readsAir_78 : decode mX12_readsAir.cd 78 = .ok (.getfield 59, 3) := by decide +kernel
theorem dX12_readsAir_81 : decode mX12_readsAir.cd 81 = .ok (.iload_n 1, 1) := by decide +kernel
theorem dX12_readsAir_82 : decode mX12_readsAir.cd 82 = .ok (.aload_n 0, 1) := by decide +kernel
theorem dX12_readsAir_83 : decode mX12_readsAir.cd 83 = .ok (.iconst 0, 1) := by decide +kernel
theorem dX12_readsAir_84 : decode mX12_readsAir.cd 84 = .ok (.bipush 100, 2) := by decide +kernel
theorem dX12_readsAir_86 : decode mX12_readsAir.cd 86 = .ok (.invokevirtual 206, 3) := by decide +kernel
theorem dX12_readsAir_89 : decode mX12_readsAir.cd 89 = .ok (.iastore, 1) := by decide +kernel
theorem dX12_readsAir_90 : decode mX12_readsAir.cd 90 = .ok (.return_, 1) := by decide +kernel
theorem bX12_readsAir_0 {fr M1 M2 b1 b2 : Nat} {Q : RS → Nat → AH → Prop} {h : AH} {x1 : AV} {R : AH → Prop}   (hS : Sp mX12_steps true (fr - 1) 0 0 [zR 98] 137 h (rV R)) (hf : 1 ≤ fr := by omega) (kk : ∀ h' : AH, R h' → Wp mX12_readsAir (kR fr M1 M2) Q (b1, b2) 4 [zR 98, none] [] 137 h') : Wp mX12_readsAir (kR fr M1 M2) Q (b1, b2) 0 [zR 98, x1] [] 137 h := by
  refine s_fgt (fgt_c (fgt_n _ fgt_0)) ?_
  refine s_aload_n (x := 98) dX12_readsAir_0 rfl ?_
  exact s_callV (as := []) (st := []) (o := 98) dX12_readsAir_1 kX12_194 rfl ⟨12, 87, TX12, e98, rfl, by decide⟩ rfl rfl (Nat.le_of_ble_eq_true rfl) hS (show fr - 1 + 1 ≤ fr by omega) (Nat.zero_le _) (Nat.zero_le _) (fun v n' h' hP _ => by obtain ⟨e, rfl, hR⟩ := hP; cases e; exact kk h' hR) (fun E n' h' _ z => (rV_nt _ _ _ z).elim)
theorem bX12_readsAir_4 {fr M1 M2 b1 b2 : Nat} {Q : RS → Nat → AH → Prop} {h : AH} {x1 : AV}  (r1 : -2147483648 ≤ h 98 22 ∧ h 98 22 < 2147483648 := by omega) (kt : ¬ h 98 22 = 2 → Wp mX12_readsAir (kR fr M1 M2) Q (b1, b2) 49 [zR 98, none] [] 137 h) (kf : h 98 22 = 2 → Wp mX12_readsAir (kR fr M1 M2) Q (b1, b2) 12 [zR 98, none] [] 137 h) : Wp mX12_readsAir (kR fr M1 M2) Q (b1, b2) 4 [zR 98, x1] [] 137 h := by
  refine s_fgt (fgt_c (fgt_n _ fgt_0)) ?_
  refine s_aload_n (x := 98) dX12_readsAir_4 rfl ?_
  refine s_get (c := 98) dX12_readsAir_5 lX12_166 e98 (by decide) ?_
  refine s_iconst dX12_readsAir_8 ?_
  exact s_icmp_ne (tgt := 49) dX12_readsAir_9 (by decide) r1 ⟨by decide, by decide⟩ kt kf
theorem bX12_readsAir_12 {fr M1 M2 b1 b2 : Nat} {Q : RS → Nat → AH → Prop} {h : AH} {x1 : AV}  (r1 : -2147483648 ≤ h 98 24 ∧ h 98 24 < 2147483648 := by omega) (kt : 4 < h 98 24 → Wp mX12_readsAir (kR fr M1 M2) Q (b1, b2) 49 [zR 98, none] [] 137 h) (kf : h 98 24 ≤ 4 → Wp mX12_readsAir (kR fr M1 M2) Q (b1, b2) 20 [zR 98, none] [] 137 h) : Wp mX12_readsAir (kR fr M1 M2) Q (b1, b2) 12 [zR 98, x1] [] 137 h := by
  refine s_fgt (fgt_c (fgt_n _ fgt_0)) ?_
  refine s_aload_n (x := 98) dX12_readsAir_12 rfl ?_
  refine s_get (c := 98) dX12_readsAir_13 lX12_176 e98 (by decide) ?_
  refine s_iconst dX12_readsAir_16 ?_
  exact s_icmp_gt (tgt := 49) dX12_readsAir_17 (by decide) r1 ⟨by decide, by decide⟩ kt kf
theorem bX12_readsAir_20 {fr M1 M2 b1 b2 : Nat} {Q : RS → Nat → AH → Prop} {h : AH} {x1 : AV}  (r1 : -2147483648 ≤ h 98 25 ∧ h 98 25 < 2147483648 := by omega) (kt : 24 ≤ h 98 25 → Wp mX12_readsAir (kR fr M1 M2) Q (b1, b2) 49 [zR 98, none] [] 137 h) (kf : h 98 25 < 24 → Wp mX12_readsAir (kR fr M1 M2) Q (b1, b2) 29 [zR 98, none] [] 137 h) : Wp mX12_readsAir (kR fr M1 M2) Q (b1, b2) 20 [zR 98, x1] [] 137 h := by
  refine s_fgt (fgt_c (fgt_n _ fgt_0)) ?_
  refine s_aload_n (x := 98) dX12_readsAir_20 rfl ?_
  refine s_get (c := 98) dX12_readsAir_21 lX12_163 e98 (by decide) ?_
  refine s_bipush dX12_readsAir_24 (by decide) ?_
  exact s_icmp_ge (tgt := 49) dX12_readsAir_26 (by decide) r1 ⟨by decide, by decide⟩ kt kf
theorem bX12_readsAir_29 {fr M1 M2 b1 b2 : Nat} {Q : RS → Nat → AH → Prop} {h : AH} {x1 : AV}  (r1 : 0 ≤ h 98 25 ∧ h 98 25 < 32 := by omega) (r2 : -2147483648 ≤ h 98 34 ∧ h 98 34 < 2147483648 := by omega) (r3 : -2147483648 ≤ bAnd ((h 98 34) / 2 ^ (h 98 25).toNat) 1 ∧ bAnd ((h 98 34) / 2 ^ (h 98 25).toNat) 1 < 2147483648 := by omega) (kt : ¬ bAnd ((h 98 34) / 2 ^ (h 98 25).toNat) 1 = 1 → Wp mX12_readsAir (kR fr M1 M2) Q (b1, b2) 49 [zR 98, none] [] 137 h) (kf : bAnd ((h 98 34) / 2 ^ (h 98 25).toNat) 1 = 1 → Wp mX12_readsAir (kR fr M1 M2) Q (b1, b2) 44 [zR 98, none] [] 137 h) : Wp mX12_readsAir (kR fr M1 M2) Q (b1, b2) 29 [zR 98, x1] [] 137 h := by
  refine s_fgt (fgt_c (fgt_n _ fgt_0)) ?_
  refine s_aload_n (x := 98) dX12_readsAir_29 rfl ?_
  refine s_get (c := 98) dX12_readsAir_30 lX12_222 e98 (by decide) ?_
  refine s_aload_n (x := 98) dX12_readsAir_33 rfl ?_
  refine s_get (c := 98) dX12_readsAir_34 lX12_163 e98 (by decide) ?_
  refine s_ishrN dX12_readsAir_37 r2 r1.1 r1.2 ?_
  refine s_iconst dX12_readsAir_38 ?_
  refine s_iand dX12_readsAir_39 ?_
  refine s_iconst dX12_readsAir_40 ?_
  exact s_icmp_ne (tgt := 49) dX12_readsAir_41 (by decide) r3 ⟨by decide, by decide⟩ kt kf
theorem bX12_readsAir_44 {fr M1 M2 b1 b2 : Nat} {Q : RS → Nat → AH → Prop} {h : AH} {x1 : AV} {R : AH → Prop}   (hS : Sp mX12_wrong true (fr - 1) 0 0 [zR 98, zI 5] 137 h (rV R)) (hf : 1 ≤ fr := by omega) (kk : ∀ h' : AH, R h' → Wp mX12_readsAir (kR fr M1 M2) Q (b1, b2) 49 [zR 98, none] [] 137 h') : Wp mX12_readsAir (kR fr M1 M2) Q (b1, b2) 44 [zR 98, x1] [] 137 h := by
  refine s_fgt (fgt_c (fgt_n _ fgt_0)) ?_
  refine s_aload_n (x := 98) dX12_readsAir_44 rfl ?_
  refine s_iconst dX12_readsAir_45 ?_
  exact s_callV (as := [zI 5]) (st := []) (o := 98) dX12_readsAir_46 kX12_197 rfl ⟨12, 87, TX12, e98, rfl, by decide⟩ rfl rfl (Nat.le_of_ble_eq_true rfl) hS (show fr - 1 + 1 ≤ fr by omega) (Nat.zero_le _) (Nat.zero_le _) (fun v n' h' hP _ => by obtain ⟨e, rfl, hR⟩ := hP; cases e; exact kk h' hR) (fun E n' h' _ z => (rV_nt _ _ _ z).elim)
theorem bX12_readsAir_49 {fr M1 M2 b1 b2 : Nat} {Q : RS → Nat → AH → Prop} {h : AH} {x1 : AV} {R : Int → AH → Prop}   (hS : Sp mX12_number true (fr - 1) 0 0 [zR 98, zI 0, zI 23] 137 h (rI R)) (hf : 1 ≤ fr := by omega) (kk : ∀ (x : Int) (h' : AH), R x h' → Wp mX12_readsAir (kR fr M1 M2) Q (b1, b2) 56 [zR 98, none] [zI x] 137 h') : Wp mX12_readsAir (kR fr M1 M2) Q (b1, b2) 49 [zR 98, x1] [] 137 h := by
  refine s_fgt (fgt_c (fgt_n _ fgt_0)) ?_
  refine s_aload_n (x := 98) dX12_readsAir_49 rfl ?_
  refine s_iconst dX12_readsAir_50 ?_
  refine s_bipush dX12_readsAir_51 (by decide) ?_
  exact s_callV (as := [zI 0, zI 23]) (st := []) (o := 98) dX12_readsAir_53 kX12_206 rfl ⟨12, 87, TX12, e98, rfl, by decide⟩ rfl rfl (Nat.le_of_ble_eq_true rfl) hS (show fr - 1 + 1 ≤ fr by omega) (Nat.zero_le _) (Nat.zero_le _) (fun v n' h' hP _ => by obtain ⟨x, e, rfl, hR⟩ := hP; cases e; exact kk x h' hR) (fun E n' h' _ z => (rI_nt _ _ _ z).elim)
theorem bX12_readsAir_56 {fr M1 M2 b1 b2 : Nat} {Q : RS → Nat → AH → Prop} {h : AH} {s0 : Int} {x1 : AV} {R : Int → AH → Prop}   (hS : Sp mX12_isGood true (fr - 1) 0 0 [zR 98] 137 h (rI R)) (hf : 1 ≤ fr := by omega) (kk : ∀ (x : Int) (h' : AH), R x h' → Wp mX12_readsAir (kR fr M1 M2) Q (b1, b2) 61 [zR 98, zI s0] [zI x] 137 h') : Wp mX12_readsAir (kR fr M1 M2) Q (b1, b2) 56 [zR 98, x1] [zI s0] 137 h := by
  refine s_fgt (fgt_c (fgt_n _ fgt_0)) ?_
  refine s_istore_n dX12_readsAir_56 rfl (by decide) ?_
  refine s_aload_n (x := 98) dX12_readsAir_57 rfl ?_
  exact s_callV (as := []) (st := []) (o := 98) dX12_readsAir_58 kX12_190 rfl ⟨12, 87, TX12, e98, rfl, by decide⟩ rfl rfl (Nat.le_of_ble_eq_true rfl) hS (show fr - 1 + 1 ≤ fr by omega) (Nat.zero_le _) (Nat.zero_le _) (fun v n' h' hP _ => by obtain ⟨x, e, rfl, hR⟩ := hP; cases e; exact kk x h' hR) (fun E n' h' _ z => (rI_nt _ _ _ z).elim)
theorem bX12_readsAir_61 {fr M1 M2 b1 b2 : Nat} {Q : RS → Nat → AH → Prop} {h : AH} {l1 s0 : Int}  (r1 : -2147483648 ≤ s0 ∧ s0 < 2147483648 := by omega) (kt : ¬ s0 = 0 → Wp mX12_readsAir (kR fr M1 M2) Q (b1, b2) 65 [zR 98, zI l1] [] 137 h) (kf : s0 = 0 → Wp mX12_readsAir (kR fr M1 M2) Q (b1, b2) 64 [zR 98, zI l1] [] 137 h) : Wp mX12_readsAir (kR fr M1 M2) Q (b1, b2) 61 [zR 98, zI l1] [zI s0] 137 h := by
  exact s_if_ne (tgt := 65) dX12_readsAir_61 (by decide) r1 kt kf
theorem bX12_readsAir_64 {fr M1 M2 b1 b2 : Nat} {Q : RS → Nat → AH → Prop} {h : AH} {x0 x1 : AV}   (hq : Q (.inl none) 137 h) : Wp mX12_readsAir (kR fr M1 M2) Q (b1, b2) 64 [x0, x1] [] 137 h := by
  refine s_fgt (fgt_n _ (fgt_n _ fgt_0)) ?_
  exact s_return dX12_readsAir_64 rfl hq (fun z => by cases z)
theorem bX12_readsAir_65 {fr M1 M2 b1 b2 : Nat} {Q : RS → Nat → AH → Prop} {h : AH} {l1 : Int} {R : Int → AH → Prop}  (r1 : 0 ≤ l1 ∧ l1 < 32 := by omega) (hS : Sp mX12_number true (fr - 1) 0 0 [zR 98, zI 0, zI 100] 137 (up h 98 34 (bOr (h 98 34) (1 * 2 ^ l1.toNat))) (rI R)) (hf : 1 ≤ fr := by omega) (kk : ∀ (x : Int) (h' : AH), R x h' → Wp mX12_readsAir (kR fr M1 M2) Q (b1, b2) 89 [zR 98, zI l1] [zI x, zI l1, zR 113] 137 h') : Wp mX12_readsAir (kR fr M1 M2) Q (b1, b2) 65 [zR 98, zI l1] [] 137 h := by
  refine s_aload_n (x := 98) dX12_readsAir_65 rfl ?_
  refine s_dup dX12_readsAir_66 rfl ?_
  refine s_get (c := 98) dX12_readsAir_67 lX12_222 e98 (by decide) ?_
  refine s_iconst dX12_readsAir_70 ?_
  refine s_iload_n (x := l1) dX12_readsAir_71 rfl ?_
  refine s_ishlN dX12_readsAir_72 r1.1 r1.2 ?_
  refine s_ior dX12_readsAir_73 ?_
  refine s_put (c := 98) dX12_readsAir_74 lX12_222 e98 ?_
  refine s_aload_n (x := 98) dX12_readsAir_77 rfl ?_
  refine s_getFd (c := 98) (d := 113) dX12_readsAir_78 lX12_59 e98 (Or.inl rfl) (by decide) (by decide) ?_
  refine s_iload_n (x := l1) dX12_readsAir_81 rfl ?_
  refine s_aload_n (x := 98) dX12_readsAir_82 rfl ?_
  refine s_iconst dX12_readsAir_83 ?_
  refine s_bipush dX12_readsAir_84 (by decide) ?_
  exact s_callV (as := [zI 0, zI 100]) (st := [zI l1, zR 113]) (o := 98) dX12_readsAir_86 kX12_206 rfl ⟨12, 87, TX12, e98, rfl, by decide⟩ rfl rfl (Nat.le_of_ble_eq_true rfl) hS (show fr - 1 + 1 ≤ fr by omega) (Nat.zero_le _) (Nat.zero_le _) (fun v n' h' hP _ => by obtain ⟨x, e, rfl, hR⟩ := hP; cases e; exact kk x h' hR) (fun E n' h' _ z => (rI_nt _ _ _ z).elim)
theorem bX12_readsAir_89 {fr M1 M2 b1 b2 : Nat} {Q : RS → Nat → AH → Prop} {h : AH} {s2 s1 s0 : Int} {N1 : Nat} {x0 x1 : AV} (c1 : cel 137 s2 (100, N1) := by first | assumption | omega) (r1 : 0 ≤ s1 ∧ s1 < N1 := by omega) (hq : Q (.inl none) 137 (up h s2 s1 s0)) : Wp mX12_readsAir (kR fr M1 M2) Q (b1, b2) 89 [x0, x1] [zI s0, zI s1, zR s2] 137 h := by
  refine s_fgt (fgt_n _ (fgt_n _ fgt_0)) ?_
  refine s_iast (c := s2) (i := s1) dX12_readsAir_89 c1 r1.1 r1.2 ?_
  exact s_return dX12_readsAir_90 rfl hq (fun z => by cases z)
theorem dX12_line_0 : decode mX12_line.cd 0 = .ok (.aload_n 0, 1) := by decide +kernel
theorem dX12_line_1 : decode mX12_line.cd 1 = .ok (.iconst 0, 1) := by decide +kernel
theorem dX12_line_2 : decode mX12_line.cd 2 = .ok (.invokevirtual 210, 3) := by decide +kernel
theorem dX12_line_5 : decode mX12_line.cd 5 = .ok (.ifCond .eq 86, 3) := by decide +kernel
theorem dX12_line_8 : decode mX12_line.cd 8 = .ok (.aload_n 0, 1) := by decide +kernel
theorem dX12_line_9 : decode mX12_line.cd 9 = .ok (.getfield 200, 3) := by decide +kernel
theorem dX12_line_12 : decode mX12_line.cd 12 = .ok (.bipush 8, 2) := by decide +kernel
theorem dX12_line_14 : decode mX12_line.cd 14 = .ok (.if_icmp .ne 8, 3) := by decide +kernel
theorem dX12_line_17 : decode mX12_line.cd 17 = .ok (.aload_n 0, 1) := by decide +kernel
theorem dX12_line_18 : decode mX12_line.cd 18 = .ok (.iconst 2, 1) := by decide +kernel
theorem dX12_line_19 : decode mX12_line.cd 19 = .ok (.invokevirtual 197, 3) := by decide +kernel
theorem dX12_line_22 : decode mX12_line.cd 22 = .ok (.aload_n 0, 1) := by decide +kernel
theorem dX12_line_23 : decode mX12_line.cd 23 = .ok (.invokevirtual 190, 3) := by decide +kernel
theorem dX12_line_26 : decode mX12_line.cd 26 = .ok (.ifCond .ne 4, 3) := by decide +kernel
theorem dX12_line_29 : decode mX12_line.cd 29 = .ok (.return_, 1) := by decide +kernel
theorem dX12_line_30 : decode mX12_line.cd 30 = .ok (.aload_n 0, 1) := by decide +kernel
theorem dX12_line_31 : decode mX12_line.cd 31 = .ok (.invokevirtual 194, 3) := by decide +kernel
theorem dX12_line_34 : decode mX12_line.cd 34 = .ok (.aload_n 0, 1) := by decide +kernel
theorem dX12_line_35 : decode mX12_line.cd 35 = .ok (.getfield 44, 3) := by decide +kernel
theorem dX12_line_38 : decode mX12_line.cd 38 = .ok (.iconst 2, 1) := by decide +kernel
theorem dX12_line_39 : decode mX12_line.cd 39 = .ok (.aload_n 0, 1) := by decide +kernel
theorem dX12_line_40 : decode mX12_line.cd 40 = .ok (.getfield 200, 3) := by decide +kernel
theorem dX12_line_43 : decode mX12_line.cd 43 = .ok (.imul, 1) := by decide +kernel
theorem dX12_line_44 : decode mX12_line.cd 44 = .ok (.aload_n 0, 1) := by decide +kernel
theorem dX12_line_45 : decode mX12_line.cd 45 = .ok (.iconst 1, 1) := by decide +kernel
theorem dX12_line_46 : decode mX12_line.cd 46 = .ok (.bipush 99, 2) := by decide +kernel
theorem dX12_line_48 : decode mX12_line.cd 48 = .ok (.invokevirtual 206, 3) := by decide +kernel
theorem dX12_line_51 : decode mX12_line.cd 51 = .ok (.iastore, 1) := by decide +kernel
theorem dX12_line_52 : decode mX12_line.cd 52 = .ok (.aload_n 0, 1) := by decide +kernel
theorem dX12_line_53 : decode mX12_line.cd 53 = .ok (.getfield 44, 3) := by decide +kernel
theorem dX12_line_56 : decode mX12_line.cd 56 = .ok (.iconst 2, 1) := by decide +kernel
theorem dX12_line_57 : decode mX12_line.cd 57 = .ok (.aload_n 0, 1) := by decide +kernel
theorem dX12_line_58 : decode mX12_line.cd 58 = .ok (.getfield 200, 3) := by decide +kernel
theorem dX12_line_61 : decode mX12_line.cd 61 = .ok (.imul, 1) := by decide +kernel
theorem dX12_line_62 : decode mX12_line.cd 62 = .ok (.iconst 1, 1) := by decide +kernel
theorem dX12_line_63 : decode mX12_line.cd 63 = .ok (.iadd, 1) := by decide +kernel
theorem dX12_line_64 : decode mX12_line.cd 64 = .ok (.aload_n 0, 1) := by decide +kernel
theorem dX12_line_65 : decode mX12_line.cd 65 = .ok (.iconst 0, 1) := by decide +kernel
theorem dX12_line_66 : decode mX12_line.cd 66 = .ok (.iconst 3, 1) := by decide +kernel
theorem dX12_line_67 : decode mX12_line.cd 67 = .ok (.invokevirtual 206, 3) := by decide +kernel
theorem dX12_line_70 : decode mX12_line.cd 70 = .ok (.iastore, 1) := by decide +kernel
theorem dX12_line_71 : decode mX12_line.cd 71 = .ok (.aload_n 0, 1) := by decide +kernel
theorem dX12_line_72 : decode mX12_line.cd 72 = .ok (.invokevirtual 190, 3) := by decide +kernel
theorem dX12_line_75 : decode mX12_line.cd 75 = .ok (.ifCond .eq 237, 3) := by decide +kernel
theorem dX12_line_78 : decode mX12_line.cd 78 = .ok (.aload_n 0, 1) := by decide +kernel
theorem dX12_line_79 : decode mX12_line.cd 79 = .ok (.dup, 1) := by decide +kernel
theorem dX12_line_80 : decode mX12_line.cd 80 = .ok (.getfield 200, 3) := by decide +kernel
theorem dX12_line_83 : decode mX12_line.cd 83 = .ok (.iconst 1, 1) := by decide +kernel
theorem dX12_line_84 : decode mX12_line.cd 84 = .ok (.iadd, 1) := by decide +kernel
theorem dX12_line_85 : decode mX12_line.cd 85 = .ok (.putfield 200, 3) := by decide +kernel
theorem dX12_line_88 : decode mX12_line.cd 88 = .ok (.goto 224, 3) := by decide +kernel
theorem dX12_line_91 : decode mX12_line.cd 91 = .ok (.aload_n 0, 1) := by decide +kernel
theorem dX12_line_92 : decode mX12_line.cd 92 = .ok (.iconst 1, 1) := by decide +kernel
theorem dX12_line_93 : decode mX12_line.cd 93 = .ok (.invokevirtual 210, 3) := by decide +kernel
theorem dX12_line_96 : decode mX12_line.cd 96 = .ok (.ifCond .eq 10, 3) := by decide +kernel
theorem dX12_line_99 : decode mX12_line.cd 99 = .ok (.aload_n 0, 1) := by decide +kernel
theorem dX12_line_100 : decode mX12_line.cd 100 = .ok (.invokevirtual 225, 3) := by decide +kernel
theorem dX12_line_103 : decode mX12_line.cd 103 = .ok (.goto 209, 3) := by decide +kernel
theorem dX12_line_106 : decode mX12_line.cd 106 = .ok (.aload_n 0, 1) := by decide +kernel
theorem dX12_line_107 : decode mX12_line.cd 107 = .ok (.iconst 2, 1) := by decide +kernel
theorem dX12_line_108 : decode mX12_line.cd 108 = .ok (.invokevirtual 210, 3) := by decide +kernel
theorem dX12_line_111 : decode mX12_line.cd 111 = .ok (.ifCond .eq 61, 3) := by decide +kernel
theorem dX12_line_114 : decode mX12_line.cd 114 = .ok (.aload_n 0, 1) := by decide +kernel
theorem dX12_line_115 : decode mX12_line.cd 115 = .ok (.getfield 228, 3) := by decide +kernel
theorem dX12_line_118 : decode mX12_line.cd 118 = .ok (.ifCond .eq 8, 3) := by decide +kernel
theorem dX12_line_121 : decode mX12_line.cd 121 = .ok (.aload_n 0, 1) := by decide +kernel
theorem dX12_line_122 : decode mX12_line.cd 122 = .ok (.iconst 5, 1) := by decide +kernel
theorem dX12_line_123 : decode mX12_line.cd 123 = .ok (.invokevirtual 197, 3) := by decide +kernel
theorem dX12_line_126 : decode mX12_line.cd 126 = .ok (.aload_n 0, 1) := by decide +kernel
theorem dX12_line_127 : decode mX12_line.cd 127 = .ok (.invokevirtual 190, 3) := by decide +kernel
theorem dX12_line_130 : decode mX12_line.cd 130 = .ok (.ifCond .ne 4, 3) := by decide +kernel
theorem dX12_line_133 : decode mX12_line.cd 133 = .ok (.return_, 1) := by decide +kernel
theorem dX12_line_134 : decode mX12_line.cd 134 = .ok (.aload_n 0, 1) := by decide +kernel
theorem dX12_line_135 : decode mX12_line.cd 135 = .ok (.iconst 1, 1) := by decide +kernel
theorem dX12_line_136 : decode mX12_line.cd 136 = .ok (.putfield 228, 3) := by decide +kernel
theorem dX12_line_139 : decode mX12_line.cd 139 = .ok (.aload_n 0, 1) := by decide +kernel
theorem dX12_line_140 : decode mX12_line.cd 140 = .ok (.invokevirtual 194, 3) := by decide +kernel
theorem dX12_line_143 : decode mX12_line.cd 143 = .ok (.aload_n 0, 1) := by decide +kernel
theorem dX12_line_144 : decode mX12_line.cd 144 = .ok (.getfield 56, 3) := by decide +kernel
theorem dX12_line_147 : decode mX12_line.cd 147 = .ok (.iconst 1, 1) := by decide +kernel
theorem dX12_line_148 : decode mX12_line.cd 148 = .ok (.aload_n 0, 1) := by decide +kernel
theorem dX12_line_149 : decode mX12_line.cd 149 = .ok (.iconst 0, 1) := by decide +kernel
theorem dX12_line_150 : decode mX12_line.cd 150 = .ok (.bipush 40, 2) := by decide +kernel
theorem dX12_line_152 : decode mX12_line.cd 152 = .ok (.invokevirtual 206, 3) := by decide +kernel
theorem dX12_line_155 : decode mX12_line.cd 155 = .ok (.iastore, 1) := by decide +kernel
theorem dX12_line_156 : decode mX12_line.cd 156 = .ok (.aload_n 0, 1) := by decide +kernel
theorem dX12_line_157 : decode mX12_line.cd 157 = .ok (.getfield 56, 3) := by decide +kernel
theorem dX12_line_160 : decode mX12_line.cd 160 = .ok (.iconst 2, 1) := by decide +kernel
theorem dX12_line_161 : decode mX12_line.cd 161 = .ok (.aload_n 0, 1) := by decide +kernel
theorem dX12_line_162 : decode mX12_line.cd 162 = .ok (.iconst 0, 1) := by decide +kernel
theorem dX12_line_163 : decode mX12_line.cd 163 = .ok (.bipush 40, 2) := by decide +kernel
theorem dX12_line_165 : decode mX12_line.cd 165 = .ok (.invokevirtual 206, 3) := by decide +kernel
theorem dX12_line_168 : decode mX12_line.cd 168 = .ok (.iastore, 1) := by decide +kernel
theorem dX12_line_169 : decode mX12_line.cd 169 = .ok (.goto 143, 3) := by decide +kernel
theorem dX12_line_172 : decode mX12_line.cd 172 = .ok (.aload_n 0, 1) := by decide +kernel
theorem dX12_line_173 : decode mX12_line.cd 173 = .ok (.iconst 3, 1) := by decide +kernel
theorem dX12_line_174 : decode mX12_line.cd 174 = .ok (.invokevirtual 210, 3) := by decide +kernel
theorem dX12_line_177 : decode mX12_line.cd 177 = .ok (.ifCond .eq 10, 3) := by decide +kernel
theorem dX12_line_180 : decode mX12_line.cd 180 = .ok (.aload_n 0, 1) := by decide +kernel
theorem dX12_line_181 : decode mX12_line.cd 181 = .ok (.invokevirtual 232, 3) := by decide +kernel
theorem dX12_line_184 : decode mX12_line.cd 184 = .ok (.goto 128, 3) := by decide +kernel
theorem dX12_line_187 : decode mX12_line.cd 187 = .ok (.aload_n 0, 1) := by decide +kernel
theorem dX12_line_188 : decode mX12_line.cd 188 = .ok (.iconst 4, 1) := by decide +kernel
theorem dX12_line_189 : decode mX12_line.cd 189 = .ok (.invokevirtual 210, 3) := by decide +kernel
theorem dX12_line_192 : decode mX12_line.cd 192 = .ok (.ifCond .eq 68, 3) := by decide +kernel
theorem dX12_line_195 : decode mX12_line.cd 195 = .ok (.aload_n 0, 1) := by decide +kernel
theorem dX12_line_196 : decode mX12_line.cd 196 = .ok (.getfield 235, 3) := by decide +kernel
theorem dX12_line_199 : decode mX12_line.cd 199 = .ok (.ifCond .eq 8, 3) := by decide +kernel
theorem dX12_line_202 : decode mX12_line.cd 202 = .ok (.aload_n 0, 1) := by decide +kernel
theorem dX12_line_203 : decode mX12_line.cd 203 = .ok (.iconst 5, 1) := by decide +kernel
theorem dX12_line_204 : decode mX12_line.cd 204 = .ok (.invokevirtual 197, 3) := by decide +kernel
theorem dX12_line_207 : decode mX12_line.cd 207 = .ok (.aload_n 0, 1) := by decide +kernel
theorem dX12_line_208 : decode mX12_line.cd 208 = .ok (.invokevirtual 190, 3) := by decide +kernel
theorem dX12_line_211 : decode mX12_line.cd 211 = .ok (.ifCond .ne 4, 3) := by decide +kernel
theorem dX12_line_214 : decode mX12_line.cd 214 = .ok (.return_, 1) := by decide +kernel
theorem dX12_line_215 : decode mX12_line.cd 215 = .ok (.aload_n 0, 1) := by decide +kernel
theorem dX12_line_216 : decode mX12_line.cd 216 = .ok (.iconst 1, 1) := by decide +kernel
theorem dX12_line_217 : decode mX12_line.cd 217 = .ok (.putfield 235, 3) := by decide +kernel
theorem dX12_line_220 : decode mX12_line.cd 220 = .ok (.aload_n 0, 1) := by decide +kernel
theorem dX12_line_221 : decode mX12_line.cd 221 = .ok (.invokevirtual 194, 3) := by decide +kernel
theorem dX12_line_224 : decode mX12_line.cd 224 = .ok (.aload_n 0, 1) := by decide +kernel
theorem dX12_line_225 : decode mX12_line.cd 225 = .ok (.aload_n 0, 1) := by decide +kernel
theorem dX12_line_226 : decode mX12_line.cd 226 = .ok (.iconst 1, 1) := by decide +kernel
theorem dX12_line_227 : decode mX12_line.cd 227 = .ok (.bipush 99, 2) := by decide +kernel
theorem dX12_line_229 : decode mX12_line.cd 229 = .ok (.invokevirtual 206, 3) := by decide +kernel
theorem dX12_line_232 : decode mX12_line.cd 232 = .ok (.putfield 238, 3) := by decide +kernel
theorem dX12_line_235 : decode mX12_line.cd 235 = .ok (.aload_n 0, 1) := by decide +kernel
theorem dX12_line_236 : decode mX12_line.cd 236 = .ok (.aload_n 0, 1) := by decide +kernel
theorem dX12_line_237 : decode mX12_line.cd 237 = .ok (.iconst 0, 1) := by decide +kernel
theorem dX12_line_238 : decode mX12_line.cd 238 = .ok (.bipush 9, 2) := by decide +kernel
theorem dX12_line_240 : decode mX12_line.cd 240 = .ok (.invokevirtual 206, 3) := by decide +kernel
theorem dX12_line_243 : decode mX12_line.cd 243 = .ok (.putfield 241, 3) := by decide +kernel
theorem dX12_line_246 : decode mX12_line.cd 246 = .ok (.aload_n 0, 1) := by decide +kernel
theorem dX12_line_247 : decode mX12_line.cd 247 = .ok (.aload_n 0, 1) := by decide +kernel
theorem dX12_line_248 : decode mX12_line.cd 248 = .ok (.iconst 0, 1) := by decide +kernel
theorem dX12_line_249 : decode mX12_line.cd 249 = .ok (.bipush 99, 2) := by decide +kernel
theorem dX12_line_251 : decode mX12_line.cd 251 = .ok (.invokevirtual 206, 3) := by decide +kernel
theorem dX12_line_254 : decode mX12_line.cd 254 = .ok (.putfield 244, 3) := by decide +kernel
theorem dX12_line_257 : decode mX12_line.cd 257 = .ok (.goto 55, 3) := by decide +kernel
theorem dX12_line_260 : decode mX12_line.cd 260 = .ok (.aload_n 0, 1) := by decide +kernel
theorem dX12_line_261 : decode mX12_line.cd 261 = .ok (.iconst 5, 1) := by decide +kernel
theorem dX12_line_262 : decode mX12_line.cd 262 = .ok (.invokevirtual 210, 3) := by decide +kernel
theorem dX12_line_265 : decode mX12_line.cd 265 = .ok (.ifCond .eq 10, 3) := by decide +kernel
theorem dX12_line_268 : decode mX12_line.cd 268 = .ok (.aload_n 0, 1) := by decide +kernel
theorem dX12_line_269 : decode mX12_line.cd 269 = .ok (.invokevirtual 247, 3) := by decide +kernel
theorem dX12_line_272 : decode mX12_line.cd 272 = .ok (.goto 40, 3) := by decide +kernel
theorem dX12_line_275 : decode mX12_line.cd 275 = .ok (.aload_n 0, 1) := by decide +kernel
theorem dX12_line_276 : decode mX12_line.cd 276 = .ok (.bipush 6, 2) := by decide +kernel
theorem dX12_line_278 : decode mX12_line.cd 278 = .ok (.invokevirtual 210, 3) := by decide +kernel
theorem dX12_line_281 : decode mX12_line.cd 281 = .ok (.ifCond .eq 10, 3) := by decide +kernel
theorem dX12_line_284 : decode mX12_line.cd 284 = .ok (.aload_n 0, 1) := by decide +kernel
theorem dX12_line_285 : decode mX12_line.cd 285 = .ok (.invokevirtual 250, 3) := by decide +kernel
theorem dX12_line_288 : decode mX12_line.cd 288 = .ok (.goto 24, 3) := by decide +kernel
theorem dX12_line_291 : decode mX12_line.cd 291 = .ok (.aload_n 0, 1) := by decide +kernel
theorem dX12_line_292 : decode mX12_line.cd 292 = .ok (.bipush 7, 2) := by decide +kernel
theorem dX12_line_294 : decode mX12_line.cd 294 = .ok (.invokevirtual 210, 3) := by decide +kernel
theorem dX12_line_297 : decode mX12_line.cd 297 = .ok (.ifCond .eq 10, 3) := by decide +kernel
theorem dX12_line_300 : decode mX12_line.cd 300 = .ok (.aload_n 0, 1) := by decide +kernel
theorem dX12_line_301 : decode mX12_line.cd 301 = .ok (.invokevirtual 253, 3) := by decide +kernel
theorem dX12_line_304 : decode mX12_line.cd 304 = .ok (.goto 8, 3) := by decide +kernel
theorem dX12_line_307 : decode mX12_line.cd 307 = .ok (.aload_n 0, 1) := by decide +kernel
theorem dX12_line_308 : decode mX12_line.cd 308 = .ok (.iconst 1, 1) := by decide +kernel
theorem dX12_line_309 : decode mX12_line.cd 309 = .ok (.invokevirtual 197, 3) := by decide +kernel
theorem dX12_line_312 : decode mX12_line.cd 312 = .ok (.aload_n 0, 1) := by decide +kernel
theorem dX12_line_313 : decode mX12_line.cd 313 = .ok (.aload_n 0, 1) := by decide +kernel
theorem dX12_line_314 : decode mX12_line.cd 314 = .ok (.getfield 166, 3) := by decide +kernel
theorem dX12_line_317 : decode mX12_line.cd 317 = .ok (.iconst 3, 1) := by decide +kernel
theorem dX12_line_318 : decode mX12_line.cd 318 = .ok (.if_icmp .ne 7, 3) := by decide +kernel
theorem dX12_line_321 : decode mX12_line.cd 321 = .ok (.iconst 1, 1) := by decide +kernel
theorem dX12_line_322 : decode mX12_line.cd 322 = .ok (.goto 4, 3) := by decide +kernel
theorem dX12_line_325 : decode mX12_line.cd 325 = .ok (.iconst 0, 1) := by decide +kernel
theorem dX12_line_326 : decode mX12_line.cd 326 = .ok (.invokevirtual 256, 3) := by decide +kernel
theorem dX12_line_329 : decode mX12_line.cd 329 = .ok (.return_, 1) := by decide +kernel
theorem bX12_line_0 {fr M1 M2 b1 b2 : Nat} {Q : RS → Nat → AH → Prop} {h : AH} {R : Int → AH → Prop}   (hS : Sp mX12_is true (fr - 1) 0 0 [zR 98, zI 0] 137 h (rI R)) (hf : 1 ≤ fr := by omega) (kk : ∀ (x : Int) (h' : AH), R x h' → Wp mX12_line (kR fr M1 M2) Q (b1, b2) 5 [zR 98] [zI x] 137 h') : Wp mX12_line (kR fr M1 M2) Q (b1, b2) 0 [zR 98] [] 137 h := by
  refine s_aload_n (x := 98) dX12_line_0 rfl ?_
  refine s_iconst dX12_line_1 ?_
  exact s_callV (as := [zI 0]) (st := []) (o := 98) dX12_line_2 kX12_210 rfl ⟨12, 87, TX12, e98, rfl, by decide⟩ rfl rfl (Nat.le_of_ble_eq_true rfl) hS (show fr - 1 + 1 ≤ fr by omega) (Nat.zero_le _) (Nat.zero_le _) (fun v n' h' hP _ => by obtain ⟨x, e, rfl, hR⟩ := hP; cases e; exact kk x h' hR) (fun E n' h' _ z => (rI_nt _ _ _ z).elim)
theorem bX12_line_5 {fr M1 M2 b1 b2 : Nat} {Q : RS → Nat → AH → Prop} {h : AH} {s0 : Int}  (r1 : -2147483648 ≤ s0 ∧ s0 < 2147483648 := by omega) (kt : s0 = 0 → Wp mX12_line (kR fr M1 M2) Q (b1, b2) 91 [zR 98] [] 137 h) (kf : ¬ s0 = 0 → Wp mX12_line (kR fr M1 M2) Q (b1, b2) 8 [zR 98] [] 137 h) : Wp mX12_line (kR fr M1 M2) Q (b1, b2) 5 [zR 98] [zI s0] 137 h := by
  exact s_if_eq (tgt := 91) dX12_line_5 (by decide) r1 kt kf
theorem bX12_line_8 {fr M1 M2 b1 b2 : Nat} {Q : RS → Nat → AH → Prop} {h : AH}  (r1 : -2147483648 ≤ h 98 27 ∧ h 98 27 < 2147483648 := by omega) (kt : ¬ h 98 27 = 8 → Wp mX12_line (kR fr M1 M2) Q (b1, b2) 22 [zR 98] [] 137 h) (kf : h 98 27 = 8 → Wp mX12_line (kR fr M1 M2) Q (b1, b2) 17 [zR 98] [] 137 h) : Wp mX12_line (kR fr M1 M2) Q (b1, b2) 8 [zR 98] [] 137 h := by
  refine s_aload_n (x := 98) dX12_line_8 rfl ?_
  refine s_get (c := 98) dX12_line_9 lX12_200 e98 (by decide) ?_
  refine s_bipush dX12_line_12 (by decide) ?_
  exact s_icmp_ne (tgt := 22) dX12_line_14 (by decide) r1 ⟨by decide, by decide⟩ kt kf
theorem bX12_line_17 {fr M1 M2 b1 b2 : Nat} {Q : RS → Nat → AH → Prop} {h : AH} {R : AH → Prop}   (hS : Sp mX12_wrong true (fr - 1) 0 0 [zR 98, zI 2] 137 h (rV R)) (hf : 1 ≤ fr := by omega) (kk : ∀ h' : AH, R h' → Wp mX12_line (kR fr M1 M2) Q (b1, b2) 22 [zR 98] [] 137 h') : Wp mX12_line (kR fr M1 M2) Q (b1, b2) 17 [zR 98] [] 137 h := by
  refine s_aload_n (x := 98) dX12_line_17 rfl ?_
  refine s_iconst dX12_line_18 ?_
  exact s_callV (as := [zI 2]) (st := []) (o := 98) dX12_line_19 kX12_197 rfl ⟨12, 87, TX12, e98, rfl, by decide⟩ rfl rfl (Nat.le_of_ble_eq_true rfl) hS (show fr - 1 + 1 ≤ fr by omega) (Nat.zero_le _) (Nat.zero_le _) (fun v n' h' hP _ => by obtain ⟨e, rfl, hR⟩ := hP; cases e; exact kk h' hR) (fun E n' h' _ z => (rV_nt _ _ _ z).elim)
theorem bX12_line_22 {fr M1 M2 b1 b2 : Nat} {Q : RS → Nat → AH → Prop} {h : AH} {R : Int → AH → Prop}   (hS : Sp mX12_isGood true (fr - 1) 0 0 [zR 98] 137 h (rI R)) (hf : 1 ≤ fr := by omega) (kk : ∀ (x : Int) (h' : AH), R x h' → Wp mX12_line (kR fr M1 M2) Q (b1, b2) 26 [zR 98] [zI x] 137 h') : Wp mX12_line (kR fr M1 M2) Q (b1, b2) 22 [zR 98] [] 137 h := by
  refine s_aload_n (x := 98) dX12_line_22 rfl ?_
  exact s_callV (as := []) (st := []) (o := 98) dX12_line_23 kX12_190 rfl ⟨12, 87, TX12, e98, rfl, by decide⟩ rfl rfl (Nat.le_of_ble_eq_true rfl) hS (show fr - 1 + 1 ≤ fr by omega) (Nat.zero_le _) (Nat.zero_le _) (fun v n' h' hP _ => by obtain ⟨x, e, rfl, hR⟩ := hP; cases e; exact kk x h' hR) (fun E n' h' _ z => (rI_nt _ _ _ z).elim)
theorem bX12_line_26 {fr M1 M2 b1 b2 : Nat} {Q : RS → Nat → AH → Prop} {h : AH} {s0 : Int}  (r1 : -2147483648 ≤ s0 ∧ s0 < 2147483648 := by omega) (kt : ¬ s0 = 0 → Wp mX12_line (kR fr M1 M2) Q (b1, b2) 30 [zR 98] [] 137 h) (kf : s0 = 0 → Wp mX12_line (kR fr M1 M2) Q (b1, b2) 29 [zR 98] [] 137 h) : Wp mX12_line (kR fr M1 M2) Q (b1, b2) 26 [zR 98] [zI s0] 137 h := by
  exact s_if_ne (tgt := 30) dX12_line_26 (by decide) r1 kt kf
theorem bX12_line_29 {fr M1 M2 b1 b2 : Nat} {Q : RS → Nat → AH → Prop} {h : AH} {x0 : AV}   (hq : Q (.inl none) 137 h) : Wp mX12_line (kR fr M1 M2) Q (b1, b2) 29 [x0] [] 137 h := by
  refine s_fgt (fgt_n _ fgt_0) ?_
  exact s_return dX12_line_29 rfl hq (fun z => by cases z)
theorem bX12_line_30 {fr M1 M2 b1 b2 : Nat} {Q : RS → Nat → AH → Prop} {h : AH} {R : AH → Prop}   (hS : Sp mX12_steps true (fr - 1) 0 0 [zR 98] 137 h (rV R)) (hf : 1 ≤ fr := by omega) (kk : ∀ h' : AH, R h' → Wp mX12_line (kR fr M1 M2) Q (b1, b2) 34 [zR 98] [] 137 h') : Wp mX12_line (kR fr M1 M2) Q (b1, b2) 30 [zR 98] [] 137 h := by
  refine s_aload_n (x := 98) dX12_line_30 rfl ?_
  exact s_callV (as := []) (st := []) (o := 98) dX12_line_31 kX12_194 rfl ⟨12, 87, TX12, e98, rfl, by decide⟩ rfl rfl (Nat.le_of_ble_eq_true rfl) hS (show fr - 1 + 1 ≤ fr by omega) (Nat.zero_le _) (Nat.zero_le _) (fun v n' h' hP _ => by obtain ⟨e, rfl, hR⟩ := hP; cases e; exact kk h' hR) (fun E n' h' _ z => (rV_nt _ _ _ z).elim)
theorem bX12_line_34 {fr M1 M2 b1 b2 : Nat} {Q : RS → Nat → AH → Prop} {h : AH} {R : Int → AH → Prop}   (hS : Sp mX12_number true (fr - 1) 0 0 [zR 98, zI 1, zI 99] 137 h (rI R)) (hf : 1 ≤ fr := by omega) (kk : ∀ (x : Int) (h' : AH), R x h' → Wp mX12_line (kR fr M1 M2) Q (b1, b2) 51 [zR 98] [zI x, zI (2 * (h 98 27)), zR 108] 137 h') : Wp mX12_line (kR fr M1 M2) Q (b1, b2) 34 [zR 98] [] 137 h := by
  refine s_aload_n (x := 98) dX12_line_34 rfl ?_
  refine s_getFd (c := 98) (d := 108) dX12_line_35 lX12_44 e98 (Or.inl rfl) (by decide) (by decide) ?_
  refine s_iconst dX12_line_38 ?_
  refine s_aload_n (x := 98) dX12_line_39 rfl ?_
  refine s_get (c := 98) dX12_line_40 lX12_200 e98 (by decide) ?_
  refine s_imul dX12_line_43 ?_
  refine s_aload_n (x := 98) dX12_line_44 rfl ?_
  refine s_iconst dX12_line_45 ?_
  refine s_bipush dX12_line_46 (by decide) ?_
  exact s_callV (as := [zI 1, zI 99]) (st := [zI (2 * (h 98 27)), zR 108]) (o := 98) dX12_line_48 kX12_206 rfl ⟨12, 87, TX12, e98, rfl, by decide⟩ rfl rfl (Nat.le_of_ble_eq_true rfl) hS (show fr - 1 + 1 ≤ fr by omega) (Nat.zero_le _) (Nat.zero_le _) (fun v n' h' hP _ => by obtain ⟨x, e, rfl, hR⟩ := hP; cases e; exact kk x h' hR) (fun E n' h' _ z => (rI_nt _ _ _ z).elim)
theorem bX12_line_51 {fr M1 M2 b1 b2 : Nat} {Q : RS → Nat → AH → Prop} {h : AH} {s2 s1 s0 : Int} {N1 : Nat} {R : Int → AH → Prop} (c1 : cel 137 s2 (100, N1) := by first | assumption | omega) (r1 : 0 ≤ s1 ∧ s1 < N1 := by omega) (hS : Sp mX12_number true (fr - 1) 0 0 [zR 98, zI 0, zI 3] 137 (up h s2 s1 s0) (rI R)) (hf : 1 ≤ fr := by omega) (kk : ∀ (x : Int) (h' : AH), R x h' → Wp mX12_line (kR fr M1 M2) Q (b1, b2) 70 [zR 98] [zI x, zI ((2 * ((up h s2 s1 s0) 98 27)) + 1), zR 108] 137 h') : Wp mX12_line (kR fr M1 M2) Q (b1, b2) 51 [zR 98] [zI s0, zI s1, zR s2] 137 h := by
  refine s_iast (c := s2) (i := s1) dX12_line_51 c1 r1.1 r1.2 ?_
  refine s_aload_n (x := 98) dX12_line_52 rfl ?_
  refine s_getFd (c := 98) (d := 108) dX12_line_53 lX12_44 e98 (Or.inl rfl) (by decide) (by decide) ?_
  refine s_iconst dX12_line_56 ?_
  refine s_aload_n (x := 98) dX12_line_57 rfl ?_
  refine s_get (c := 98) dX12_line_58 lX12_200 e98 (by decide) ?_
  refine s_imul dX12_line_61 ?_
  refine s_iconst dX12_line_62 ?_
  refine s_iadd dX12_line_63 ?_
  refine s_aload_n (x := 98) dX12_line_64 rfl ?_
  refine s_iconst dX12_line_65 ?_
  refine s_iconst dX12_line_66 ?_
  exact s_callV (as := [zI 0, zI 3]) (st := [zI ((2 * ((up h s2 s1 s0) 98 27)) + 1), zR 108]) (o := 98) dX12_line_67 kX12_206 rfl ⟨12, 87, TX12, e98, rfl, by decide⟩ rfl rfl (Nat.le_of_ble_eq_true rfl) hS (show fr - 1 + 1 ≤ fr by omega) (Nat.zero_le _) (Nat.zero_le _) (fun v n' h' hP _ => by obtain ⟨x, e, rfl, hR⟩ := hP; cases e; exact kk x h' hR) (fun E n' h' _ z => (rI_nt _ _ _ z).elim)
theorem bX12_line_70 {fr M1 M2 b1 b2 : Nat} {Q : RS → Nat → AH → Prop} {h : AH} {s2 s1 s0 : Int} {N1 : Nat} {R : Int → AH → Prop} (c1 : cel 137 s2 (100, N1) := by first | assumption | omega) (r1 : 0 ≤ s1 ∧ s1 < N1 := by omega) (hS : Sp mX12_isGood true (fr - 1) 0 0 [zR 98] 137 (up h s2 s1 s0) (rI R)) (hf : 1 ≤ fr := by omega) (kk : ∀ (x : Int) (h' : AH), R x h' → Wp mX12_line (kR fr M1 M2) Q (b1, b2) 75 [zR 98] [zI x] 137 h') : Wp mX12_line (kR fr M1 M2) Q (b1, b2) 70 [zR 98] [zI s0, zI s1, zR s2] 137 h := by
  refine s_iast (c := s2) (i := s1) dX12_line_70 c1 r1.1 r1.2 ?_
  refine s_aload_n (x := 98) dX12_line_71 rfl ?_
  exact s_callV (as := []) (st := []) (o := 98) dX12_line_72 kX12_190 rfl ⟨12, 87, TX12, e98, rfl, by decide⟩ rfl rfl (Nat.le_of_ble_eq_true rfl) hS (show fr - 1 + 1 ≤ fr by omega) (Nat.zero_le _) (Nat.zero_le _) (fun v n' h' hP _ => by obtain ⟨x, e, rfl, hR⟩ := hP; cases e; exact kk x h' hR) (fun E n' h' _ z => (rI_nt _ _ _ z).elim)
theorem bX12_line_75 {fr M1 M2 b1 b2 : Nat} {Q : RS → Nat → AH → Prop} {h : AH} {s0 : Int}  (r1 : -2147483648 ≤ s0 ∧ s0 < 2147483648 := by omega) (kt : s0 = 0 → Wp mX12_line (kR fr M1 M2) Q (b1, b2) 312 [zR 98] [] 137 h) (kf : ¬ s0 = 0 → Wp mX12_line (kR fr M1 M2) Q (b1, b2) 78 [zR 98] [] 137 h) : Wp mX12_line (kR fr M1 M2) Q (b1, b2) 75 [zR 98] [zI s0] 137 h := by
  exact s_if_eq (tgt := 312) dX12_line_75 (by decide) r1 kt kf
theorem bX12_line_78 {fr M1 M2 b1 b2 : Nat} {Q : RS → Nat → AH → Prop} {h : AH}   (kk : Wp mX12_line (kR fr M1 M2) Q (b1, b2) 312 [zR 98] [] 137 (up h 98 27 ((h 98 27) + 1))) : Wp mX12_line (kR fr M1 M2) Q (b1, b2) 78 [zR 98] [] 137 h := by
  refine s_aload_n (x := 98) dX12_line_78 rfl ?_
  refine s_dup dX12_line_79 rfl ?_
  refine s_get (c := 98) dX12_line_80 lX12_200 e98 (by decide) ?_
  refine s_iconst dX12_line_83 ?_
  refine s_iadd dX12_line_84 ?_
  refine s_put (c := 98) dX12_line_85 lX12_200 e98 ?_
  exact s_goto (tgt := 312) dX12_line_88 (by decide) kk
theorem bX12_line_91 {fr M1 M2 b1 b2 : Nat} {Q : RS → Nat → AH → Prop} {h : AH} {R : Int → AH → Prop}   (hS : Sp mX12_is true (fr - 1) 0 0 [zR 98, zI 1] 137 h (rI R)) (hf : 1 ≤ fr := by omega) (kk : ∀ (x : Int) (h' : AH), R x h' → Wp mX12_line (kR fr M1 M2) Q (b1, b2) 96 [zR 98] [zI x] 137 h') : Wp mX12_line (kR fr M1 M2) Q (b1, b2) 91 [zR 98] [] 137 h := by
  refine s_aload_n (x := 98) dX12_line_91 rfl ?_
  refine s_iconst dX12_line_92 ?_
  exact s_callV (as := [zI 1]) (st := []) (o := 98) dX12_line_93 kX12_210 rfl ⟨12, 87, TX12, e98, rfl, by decide⟩ rfl rfl (Nat.le_of_ble_eq_true rfl) hS (show fr - 1 + 1 ≤ fr by omega) (Nat.zero_le _) (Nat.zero_le _) (fun v n' h' hP _ => by obtain ⟨x, e, rfl, hR⟩ := hP; cases e; exact kk x h' hR) (fun E n' h' _ z => (rI_nt _ _ _ z).elim)
theorem bX12_line_96 {fr M1 M2 b1 b2 : Nat} {Q : RS → Nat → AH → Prop} {h : AH} {s0 : Int}  (r1 : -2147483648 ≤ s0 ∧ s0 < 2147483648 := by omega) (kt : s0 = 0 → Wp mX12_line (kR fr M1 M2) Q (b1, b2) 106 [zR 98] [] 137 h) (kf : ¬ s0 = 0 → Wp mX12_line (kR fr M1 M2) Q (b1, b2) 99 [zR 98] [] 137 h) : Wp mX12_line (kR fr M1 M2) Q (b1, b2) 96 [zR 98] [zI s0] 137 h := by
  exact s_if_eq (tgt := 106) dX12_line_96 (by decide) r1 kt kf
theorem bX12_line_99 {fr M1 M2 b1 b2 : Nat} {Q : RS → Nat → AH → Prop} {h : AH} {R : AH → Prop}   (hS : Sp mX12_readsWall true (fr - 1) 0 0 [zR 98] 137 h (rV R)) (hf : 1 ≤ fr := by omega) (kk : ∀ h' : AH, R h' → Wp mX12_line (kR fr M1 M2) Q (b1, b2) 103 [zR 98] [] 137 h') : Wp mX12_line (kR fr M1 M2) Q (b1, b2) 99 [zR 98] [] 137 h := by
  refine s_aload_n (x := 98) dX12_line_99 rfl ?_
  exact s_callV (as := []) (st := []) (o := 98) dX12_line_100 kX12_225 rfl ⟨12, 87, TX12, e98, rfl, by decide⟩ rfl rfl (Nat.le_of_ble_eq_true rfl) hS (show fr - 1 + 1 ≤ fr by omega) (Nat.zero_le _) (Nat.zero_le _) (fun v n' h' hP _ => by obtain ⟨e, rfl, hR⟩ := hP; cases e; exact kk h' hR) (fun E n' h' _ z => (rV_nt _ _ _ z).elim)
theorem bX12_line_103 {fr M1 M2 b1 b2 : Nat} {Q : RS → Nat → AH → Prop} {h : AH}   (kk : Wp mX12_line (kR fr M1 M2) Q (b1, b2) 312 [zR 98] [] 137 h) : Wp mX12_line (kR fr M1 M2) Q (b1, b2) 103 [zR 98] [] 137 h := by
  exact s_goto (tgt := 312) dX12_line_103 (by decide) kk
theorem bX12_line_106 {fr M1 M2 b1 b2 : Nat} {Q : RS → Nat → AH → Prop} {h : AH} {R : Int → AH → Prop}   (hS : Sp mX12_is true (fr - 1) 0 0 [zR 98, zI 2] 137 h (rI R)) (hf : 1 ≤ fr := by omega) (kk : ∀ (x : Int) (h' : AH), R x h' → Wp mX12_line (kR fr M1 M2) Q (b1, b2) 111 [zR 98] [zI x] 137 h') : Wp mX12_line (kR fr M1 M2) Q (b1, b2) 106 [zR 98] [] 137 h := by
  refine s_aload_n (x := 98) dX12_line_106 rfl ?_
  refine s_iconst dX12_line_107 ?_
  exact s_callV (as := [zI 2]) (st := []) (o := 98) dX12_line_108 kX12_210 rfl ⟨12, 87, TX12, e98, rfl, by decide⟩ rfl rfl (Nat.le_of_ble_eq_true rfl) hS (show fr - 1 + 1 ≤ fr by omega) (Nat.zero_le _) (Nat.zero_le _) (fun v n' h' hP _ => by obtain ⟨x, e, rfl, hR⟩ := hP; cases e; exact kk x h' hR) (fun E n' h' _ z => (rI_nt _ _ _ z).elim)
theorem bX12_line_111 {fr M1 M2 b1 b2 : Nat} {Q : RS → Nat → AH → Prop} {h : AH} {s0 : Int}  (r1 : -2147483648 ≤ s0 ∧ s0 < 2147483648 := by omega) (kt : s0 = 0 → Wp mX12_line (kR fr M1 M2) Q (b1, b2) 172 [zR 98] [] 137 h) (kf : ¬ s0 = 0 → Wp mX12_line (kR fr M1 M2) Q (b1, b2) 114 [zR 98] [] 137 h) : Wp mX12_line (kR fr M1 M2) Q (b1, b2) 111 [zR 98] [zI s0] 137 h := by
  exact s_if_eq (tgt := 172) dX12_line_111 (by decide) r1 kt kf
theorem bX12_line_114 {fr M1 M2 b1 b2 : Nat} {Q : RS → Nat → AH → Prop} {h : AH}  (r1 : -2147483648 ≤ h 98 35 ∧ h 98 35 < 2147483648 := by omega) (kt : h 98 35 = 0 → Wp mX12_line (kR fr M1 M2) Q (b1, b2) 126 [zR 98] [] 137 h) (kf : ¬ h 98 35 = 0 → Wp mX12_line (kR fr M1 M2) Q (b1, b2) 121 [zR 98] [] 137 h) : Wp mX12_line (kR fr M1 M2) Q (b1, b2) 114 [zR 98] [] 137 h := by
  refine s_aload_n (x := 98) dX12_line_114 rfl ?_
  refine s_get (c := 98) dX12_line_115 lX12_228 e98 (by decide) ?_
  exact s_if_eq (tgt := 126) dX12_line_118 (by decide) r1 kt kf
theorem bX12_line_121 {fr M1 M2 b1 b2 : Nat} {Q : RS → Nat → AH → Prop} {h : AH} {R : AH → Prop}   (hS : Sp mX12_wrong true (fr - 1) 0 0 [zR 98, zI 5] 137 h (rV R)) (hf : 1 ≤ fr := by omega) (kk : ∀ h' : AH, R h' → Wp mX12_line (kR fr M1 M2) Q (b1, b2) 126 [zR 98] [] 137 h') : Wp mX12_line (kR fr M1 M2) Q (b1, b2) 121 [zR 98] [] 137 h := by
  refine s_aload_n (x := 98) dX12_line_121 rfl ?_
  refine s_iconst dX12_line_122 ?_
  exact s_callV (as := [zI 5]) (st := []) (o := 98) dX12_line_123 kX12_197 rfl ⟨12, 87, TX12, e98, rfl, by decide⟩ rfl rfl (Nat.le_of_ble_eq_true rfl) hS (show fr - 1 + 1 ≤ fr by omega) (Nat.zero_le _) (Nat.zero_le _) (fun v n' h' hP _ => by obtain ⟨e, rfl, hR⟩ := hP; cases e; exact kk h' hR) (fun E n' h' _ z => (rV_nt _ _ _ z).elim)
theorem bX12_line_126 {fr M1 M2 b1 b2 : Nat} {Q : RS → Nat → AH → Prop} {h : AH} {R : Int → AH → Prop}   (hS : Sp mX12_isGood true (fr - 1) 0 0 [zR 98] 137 h (rI R)) (hf : 1 ≤ fr := by omega) (kk : ∀ (x : Int) (h' : AH), R x h' → Wp mX12_line (kR fr M1 M2) Q (b1, b2) 130 [zR 98] [zI x] 137 h') : Wp mX12_line (kR fr M1 M2) Q (b1, b2) 126 [zR 98] [] 137 h := by
  refine s_aload_n (x := 98) dX12_line_126 rfl ?_
  exact s_callV (as := []) (st := []) (o := 98) dX12_line_127 kX12_190 rfl ⟨12, 87, TX12, e98, rfl, by decide⟩ rfl rfl (Nat.le_of_ble_eq_true rfl) hS (show fr - 1 + 1 ≤ fr by omega) (Nat.zero_le _) (Nat.zero_le _) (fun v n' h' hP _ => by obtain ⟨x, e, rfl, hR⟩ := hP; cases e; exact kk x h' hR) (fun E n' h' _ z => (rI_nt _ _ _ z).elim)
theorem bX12_line_130 {fr M1 M2 b1 b2 : Nat} {Q : RS → Nat → AH → Prop} {h : AH} {s0 : Int}  (r1 : -2147483648 ≤ s0 ∧ s0 < 2147483648 := by omega) (kt : ¬ s0 = 0 → Wp mX12_line (kR fr M1 M2) Q (b1, b2) 134 [zR 98] [] 137 h) (kf : s0 = 0 → Wp mX12_line (kR fr M1 M2) Q (b1, b2) 133 [zR 98] [] 137 h) : Wp mX12_line (kR fr M1 M2) Q (b1, b2) 130 [zR 98] [zI s0] 137 h := by
  exact s_if_ne (tgt := 134) dX12_line_130 (by decide) r1 kt kf
theorem bX12_line_133 {fr M1 M2 b1 b2 : Nat} {Q : RS → Nat → AH → Prop} {h : AH} {x0 : AV}   (hq : Q (.inl none) 137 h) : Wp mX12_line (kR fr M1 M2) Q (b1, b2) 133 [x0] [] 137 h := by
  refine s_fgt (fgt_n _ fgt_0) ?_
  exact s_return dX12_line_133 rfl hq (fun z => by cases z)
theorem bX12_line_134 {fr M1 M2 b1 b2 : Nat} {Q : RS → Nat → AH → Prop} {h : AH} {R : AH → Prop}   (hS : Sp mX12_steps true (fr - 1) 0 0 [zR 98] 137 (up h 98 35 1) (rV R)) (hf : 1 ≤ fr := by omega) (kk : ∀ h' : AH, R h' → Wp mX12_line (kR fr M1 M2) Q (b1, b2) 143 [zR 98] [] 137 h') : Wp mX12_line (kR fr M1 M2) Q (b1, b2) 134 [zR 98] [] 137 h := by
  refine s_aload_n (x := 98) dX12_line_134 rfl ?_
  refine s_iconst dX12_line_135 ?_
  refine s_putZ (c := 98) dX12_line_136 lX12_228 e98 (by decide) ?_
  refine s_aload_n (x := 98) dX12_line_139 rfl ?_
  exact s_callV (as := []) (st := []) (o := 98) dX12_line_140 kX12_194 rfl ⟨12, 87, TX12, e98, rfl, by decide⟩ rfl rfl (Nat.le_of_ble_eq_true rfl) hS (show fr - 1 + 1 ≤ fr by omega) (Nat.zero_le _) (Nat.zero_le _) (fun v n' h' hP _ => by obtain ⟨e, rfl, hR⟩ := hP; cases e; exact kk h' hR) (fun E n' h' _ z => (rV_nt _ _ _ z).elim)
theorem bX12_line_143 {fr M1 M2 b1 b2 : Nat} {Q : RS → Nat → AH → Prop} {h : AH} {R : Int → AH → Prop}   (hS : Sp mX12_number true (fr - 1) 0 0 [zR 98, zI 0, zI 40] 137 h (rI R)) (hf : 1 ≤ fr := by omega) (kk : ∀ (x : Int) (h' : AH), R x h' → Wp mX12_line (kR fr M1 M2) Q (b1, b2) 155 [zR 98] [zI x, zI 1, zR 112] 137 h') : Wp mX12_line (kR fr M1 M2) Q (b1, b2) 143 [zR 98] [] 137 h := by
  refine s_aload_n (x := 98) dX12_line_143 rfl ?_
  refine s_getFd (c := 98) (d := 112) dX12_line_144 lX12_56 e98 (Or.inl rfl) (by decide) (by decide) ?_
  refine s_iconst dX12_line_147 ?_
  refine s_aload_n (x := 98) dX12_line_148 rfl ?_
  refine s_iconst dX12_line_149 ?_
  refine s_bipush dX12_line_150 (by decide) ?_
  exact s_callV (as := [zI 0, zI 40]) (st := [zI 1, zR 112]) (o := 98) dX12_line_152 kX12_206 rfl ⟨12, 87, TX12, e98, rfl, by decide⟩ rfl rfl (Nat.le_of_ble_eq_true rfl) hS (show fr - 1 + 1 ≤ fr by omega) (Nat.zero_le _) (Nat.zero_le _) (fun v n' h' hP _ => by obtain ⟨x, e, rfl, hR⟩ := hP; cases e; exact kk x h' hR) (fun E n' h' _ z => (rI_nt _ _ _ z).elim)
theorem bX12_line_155 {fr M1 M2 b1 b2 : Nat} {Q : RS → Nat → AH → Prop} {h : AH} {s2 s1 s0 : Int} {N1 : Nat} {R : Int → AH → Prop} (c1 : cel 137 s2 (100, N1) := by first | assumption | omega) (r1 : 0 ≤ s1 ∧ s1 < N1 := by omega) (hS : Sp mX12_number true (fr - 1) 0 0 [zR 98, zI 0, zI 40] 137 (up h s2 s1 s0) (rI R)) (hf : 1 ≤ fr := by omega) (kk : ∀ (x : Int) (h' : AH), R x h' → Wp mX12_line (kR fr M1 M2) Q (b1, b2) 168 [zR 98] [zI x, zI 2, zR 112] 137 h') : Wp mX12_line (kR fr M1 M2) Q (b1, b2) 155 [zR 98] [zI s0, zI s1, zR s2] 137 h := by
  refine s_iast (c := s2) (i := s1) dX12_line_155 c1 r1.1 r1.2 ?_
  refine s_aload_n (x := 98) dX12_line_156 rfl ?_
  refine s_getFd (c := 98) (d := 112) dX12_line_157 lX12_56 e98 (Or.inl rfl) (by decide) (by decide) ?_
  refine s_iconst dX12_line_160 ?_
  refine s_aload_n (x := 98) dX12_line_161 rfl ?_
  refine s_iconst dX12_line_162 ?_
  refine s_bipush dX12_line_163 (by decide) ?_
  exact s_callV (as := [zI 0, zI 40]) (st := [zI 2, zR 112]) (o := 98) dX12_line_165 kX12_206 rfl ⟨12, 87, TX12, e98, rfl, by decide⟩ rfl rfl (Nat.le_of_ble_eq_true rfl) hS (show fr - 1 + 1 ≤ fr by omega) (Nat.zero_le _) (Nat.zero_le _) (fun v n' h' hP _ => by obtain ⟨x, e, rfl, hR⟩ := hP; cases e; exact kk x h' hR) (fun E n' h' _ z => (rI_nt _ _ _ z).elim)
theorem bX12_line_168 {fr M1 M2 b1 b2 : Nat} {Q : RS → Nat → AH → Prop} {h : AH} {s2 s1 s0 : Int} {N1 : Nat} (c1 : cel 137 s2 (100, N1) := by first | assumption | omega) (r1 : 0 ≤ s1 ∧ s1 < N1 := by omega) (kk : Wp mX12_line (kR fr M1 M2) Q (b1, b2) 312 [zR 98] [] 137 (up h s2 s1 s0)) : Wp mX12_line (kR fr M1 M2) Q (b1, b2) 168 [zR 98] [zI s0, zI s1, zR s2] 137 h := by
  refine s_iast (c := s2) (i := s1) dX12_line_168 c1 r1.1 r1.2 ?_
  exact s_goto (tgt := 312) dX12_line_169 (by decide) kk
theorem bX12_line_172 {fr M1 M2 b1 b2 : Nat} {Q : RS → Nat → AH → Prop} {h : AH} {R : Int → AH → Prop}   (hS : Sp mX12_is true (fr - 1) 0 0 [zR 98, zI 3] 137 h (rI R)) (hf : 1 ≤ fr := by omega) (kk : ∀ (x : Int) (h' : AH), R x h' → Wp mX12_line (kR fr M1 M2) Q (b1, b2) 177 [zR 98] [zI x] 137 h') : Wp mX12_line (kR fr M1 M2) Q (b1, b2) 172 [zR 98] [] 137 h := by
  refine s_aload_n (x := 98) dX12_line_172 rfl ?_
  refine s_iconst dX12_line_173 ?_
  exact s_callV (as := [zI 3]) (st := []) (o := 98) dX12_line_174 kX12_210 rfl ⟨12, 87, TX12, e98, rfl, by decide⟩ rfl rfl (Nat.le_of_ble_eq_true rfl) hS (show fr - 1 + 1 ≤ fr by omega) (Nat.zero_le _) (Nat.zero_le _) (fun v n' h' hP _ => by obtain ⟨x, e, rfl, hR⟩ := hP; cases e; exact kk x h' hR) (fun E n' h' _ z => (rI_nt _ _ _ z).elim)
theorem bX12_line_177 {fr M1 M2 b1 b2 : Nat} {Q : RS → Nat → AH → Prop} {h : AH} {s0 : Int}  (r1 : -2147483648 ≤ s0 ∧ s0 < 2147483648 := by omega) (kt : s0 = 0 → Wp mX12_line (kR fr M1 M2) Q (b1, b2) 187 [zR 98] [] 137 h) (kf : ¬ s0 = 0 → Wp mX12_line (kR fr M1 M2) Q (b1, b2) 180 [zR 98] [] 137 h) : Wp mX12_line (kR fr M1 M2) Q (b1, b2) 177 [zR 98] [zI s0] 137 h := by
  exact s_if_eq (tgt := 187) dX12_line_177 (by decide) r1 kt kf
theorem bX12_line_180 {fr M1 M2 b1 b2 : Nat} {Q : RS → Nat → AH → Prop} {h : AH} {R : AH → Prop}   (hS : Sp mX12_readsAir true (fr - 1) 0 0 [zR 98] 137 h (rV R)) (hf : 1 ≤ fr := by omega) (kk : ∀ h' : AH, R h' → Wp mX12_line (kR fr M1 M2) Q (b1, b2) 184 [zR 98] [] 137 h') : Wp mX12_line (kR fr M1 M2) Q (b1, b2) 180 [zR 98] [] 137 h := by
  refine s_aload_n (x := 98) dX12_line_180 rfl ?_
  exact s_callV (as := []) (st := []) (o := 98) dX12_line_181 kX12_232 rfl ⟨12, 87, TX12, e98, rfl, by decide⟩ rfl rfl (Nat.le_of_ble_eq_true rfl) hS (show fr - 1 + 1 ≤ fr by omega) (Nat.zero_le _) (Nat.zero_le _) (fun v n' h' hP _ => by obtain ⟨e, rfl, hR⟩ := hP; cases e; exact kk h' hR) (fun E n' h' _ z => (rV_nt _ _ _ z).elim)
theorem bX12_line_184 {fr M1 M2 b1 b2 : Nat} {Q : RS → Nat → AH → Prop} {h : AH}   (kk : Wp mX12_line (kR fr M1 M2) Q (b1, b2) 312 [zR 98] [] 137 h) : Wp mX12_line (kR fr M1 M2) Q (b1, b2) 184 [zR 98] [] 137 h := by
  exact s_goto (tgt := 312) dX12_line_184 (by decide) kk
theorem bX12_line_187 {fr M1 M2 b1 b2 : Nat} {Q : RS → Nat → AH → Prop} {h : AH} {R : Int → AH → Prop}   (hS : Sp mX12_is true (fr - 1) 0 0 [zR 98, zI 4] 137 h (rI R)) (hf : 1 ≤ fr := by omega) (kk : ∀ (x : Int) (h' : AH), R x h' → Wp mX12_line (kR fr M1 M2) Q (b1, b2) 192 [zR 98] [zI x] 137 h') : Wp mX12_line (kR fr M1 M2) Q (b1, b2) 187 [zR 98] [] 137 h := by
  refine s_aload_n (x := 98) dX12_line_187 rfl ?_
  refine s_iconst dX12_line_188 ?_
  exact s_callV (as := [zI 4]) (st := []) (o := 98) dX12_line_189 kX12_210 rfl ⟨12, 87, TX12, e98, rfl, by decide⟩ rfl rfl (Nat.le_of_ble_eq_true rfl) hS (show fr - 1 + 1 ≤ fr by omega) (Nat.zero_le _) (Nat.zero_le _) (fun v n' h' hP _ => by obtain ⟨x, e, rfl, hR⟩ := hP; cases e; exact kk x h' hR) (fun E n' h' _ z => (rI_nt _ _ _ z).elim)
theorem bX12_line_192 {fr M1 M2 b1 b2 : Nat} {Q : RS → Nat → AH → Prop} {h : AH} {s0 : Int}  (r1 : -2147483648 ≤ s0 ∧ s0 < 2147483648 := by omega) (kt : s0 = 0 → Wp mX12_line (kR fr M1 M2) Q (b1, b2) 260 [zR 98] [] 137 h) (kf : ¬ s0 = 0 → Wp mX12_line (kR fr M1 M2) Q (b1, b2) 195 [zR 98] [] 137 h) : Wp mX12_line (kR fr M1 M2) Q (b1, b2) 192 [zR 98] [zI s0] 137 h := by
  exact s_if_eq (tgt := 260) dX12_line_192 (by decide) r1 kt kf
theorem bX12_line_195 {fr M1 M2 b1 b2 : Nat} {Q : RS → Nat → AH → Prop} {h : AH}  (r1 : -2147483648 ≤ h 98 36 ∧ h 98 36 < 2147483648 := by omega) (kt : h 98 36 = 0 → Wp mX12_line (kR fr M1 M2) Q (b1, b2) 207 [zR 98] [] 137 h) (kf : ¬ h 98 36 = 0 → Wp mX12_line (kR fr M1 M2) Q (b1, b2) 202 [zR 98] [] 137 h) : Wp mX12_line (kR fr M1 M2) Q (b1, b2) 195 [zR 98] [] 137 h := by
  refine s_aload_n (x := 98) dX12_line_195 rfl ?_
  refine s_get (c := 98) dX12_line_196 lX12_235 e98 (by decide) ?_
  exact s_if_eq (tgt := 207) dX12_line_199 (by decide) r1 kt kf
theorem bX12_line_202 {fr M1 M2 b1 b2 : Nat} {Q : RS → Nat → AH → Prop} {h : AH} {R : AH → Prop}   (hS : Sp mX12_wrong true (fr - 1) 0 0 [zR 98, zI 5] 137 h (rV R)) (hf : 1 ≤ fr := by omega) (kk : ∀ h' : AH, R h' → Wp mX12_line (kR fr M1 M2) Q (b1, b2) 207 [zR 98] [] 137 h') : Wp mX12_line (kR fr M1 M2) Q (b1, b2) 202 [zR 98] [] 137 h := by
  refine s_aload_n (x := 98) dX12_line_202 rfl ?_
  refine s_iconst dX12_line_203 ?_
  exact s_callV (as := [zI 5]) (st := []) (o := 98) dX12_line_204 kX12_197 rfl ⟨12, 87, TX12, e98, rfl, by decide⟩ rfl rfl (Nat.le_of_ble_eq_true rfl) hS (show fr - 1 + 1 ≤ fr by omega) (Nat.zero_le _) (Nat.zero_le _) (fun v n' h' hP _ => by obtain ⟨e, rfl, hR⟩ := hP; cases e; exact kk h' hR) (fun E n' h' _ z => (rV_nt _ _ _ z).elim)
theorem bX12_line_207 {fr M1 M2 b1 b2 : Nat} {Q : RS → Nat → AH → Prop} {h : AH} {R : Int → AH → Prop}   (hS : Sp mX12_isGood true (fr - 1) 0 0 [zR 98] 137 h (rI R)) (hf : 1 ≤ fr := by omega) (kk : ∀ (x : Int) (h' : AH), R x h' → Wp mX12_line (kR fr M1 M2) Q (b1, b2) 211 [zR 98] [zI x] 137 h') : Wp mX12_line (kR fr M1 M2) Q (b1, b2) 207 [zR 98] [] 137 h := by
  refine s_aload_n (x := 98) dX12_line_207 rfl ?_
  exact s_callV (as := []) (st := []) (o := 98) dX12_line_208 kX12_190 rfl ⟨12, 87, TX12, e98, rfl, by decide⟩ rfl rfl (Nat.le_of_ble_eq_true rfl) hS (show fr - 1 + 1 ≤ fr by omega) (Nat.zero_le _) (Nat.zero_le _) (fun v n' h' hP _ => by obtain ⟨x, e, rfl, hR⟩ := hP; cases e; exact kk x h' hR) (fun E n' h' _ z => (rI_nt _ _ _ z).elim)
theorem bX12_line_211 {fr M1 M2 b1 b2 : Nat} {Q : RS → Nat → AH → Prop} {h : AH} {s0 : Int}  (r1 : -2147483648 ≤ s0 ∧ s0 < 2147483648 := by omega) (kt : ¬ s0 = 0 → Wp mX12_line (kR fr M1 M2) Q (b1, b2) 215 [zR 98] [] 137 h) (kf : s0 = 0 → Wp mX12_line (kR fr M1 M2) Q (b1, b2) 214 [zR 98] [] 137 h) : Wp mX12_line (kR fr M1 M2) Q (b1, b2) 211 [zR 98] [zI s0] 137 h := by
  exact s_if_ne (tgt := 215) dX12_line_211 (by decide) r1 kt kf
theorem bX12_line_214 {fr M1 M2 b1 b2 : Nat} {Q : RS → Nat → AH → Prop} {h : AH} {x0 : AV}   (hq : Q (.inl none) 137 h) : Wp mX12_line (kR fr M1 M2) Q (b1, b2) 214 [x0] [] 137 h := by
  refine s_fgt (fgt_n _ fgt_0) ?_
  exact s_return dX12_line_214 rfl hq (fun z => by cases z)
theorem bX12_line_215 {fr M1 M2 b1 b2 : Nat} {Q : RS → Nat → AH → Prop} {h : AH} {R : AH → Prop}   (hS : Sp mX12_steps true (fr - 1) 0 0 [zR 98] 137 (up h 98 36 1) (rV R)) (hf : 1 ≤ fr := by omega) (kk : ∀ h' : AH, R h' → Wp mX12_line (kR fr M1 M2) Q (b1, b2) 224 [zR 98] [] 137 h') : Wp mX12_line (kR fr M1 M2) Q (b1, b2) 215 [zR 98] [] 137 h := by
  refine s_aload_n (x := 98) dX12_line_215 rfl ?_
  refine s_iconst dX12_line_216 ?_
  refine s_putZ (c := 98) dX12_line_217 lX12_235 e98 (by decide) ?_
  refine s_aload_n (x := 98) dX12_line_220 rfl ?_
  exact s_callV (as := []) (st := []) (o := 98) dX12_line_221 kX12_194 rfl ⟨12, 87, TX12, e98, rfl, by decide⟩ rfl rfl (Nat.le_of_ble_eq_true rfl) hS (show fr - 1 + 1 ≤ fr by omega) (Nat.zero_le _) (Nat.zero_le _) (fun v n' h' hP _ => by obtain ⟨e, rfl, hR⟩ := hP; cases e; exact kk h' hR) (fun E n' h' _ z => (rV_nt _ _ _ z).elim)
theorem bX12_line_224 {fr M1 M2 b1 b2 : Nat} {Q : RS → Nat → AH → Prop} {h : AH} {R : Int → AH → Prop}   (hS : Sp mX12_number true (fr - 1) 0 0 [zR 98, zI 1, zI 99] 137 h (rI R)) (hf : 1 ≤ fr := by omega) (kk : ∀ (x : Int) (h' : AH), R x h' → Wp mX12_line (kR fr M1 M2) Q (b1, b2) 232 [zR 98] [zI x, zR 98] 137 h') : Wp mX12_line (kR fr M1 M2) Q (b1, b2) 224 [zR 98] [] 137 h := by
  refine s_aload_n (x := 98) dX12_line_224 rfl ?_
  refine s_aload_n (x := 98) dX12_line_225 rfl ?_
  refine s_iconst dX12_line_226 ?_
  refine s_bipush dX12_line_227 (by decide) ?_
  exact s_callV (as := [zI 1, zI 99]) (st := [zR 98]) (o := 98) dX12_line_229 kX12_206 rfl ⟨12, 87, TX12, e98, rfl, by decide⟩ rfl rfl (Nat.le_of_ble_eq_true rfl) hS (show fr - 1 + 1 ≤ fr by omega) (Nat.zero_le _) (Nat.zero_le _) (fun v n' h' hP _ => by obtain ⟨x, e, rfl, hR⟩ := hP; cases e; exact kk x h' hR) (fun E n' h' _ z => (rI_nt _ _ _ z).elim)
theorem bX12_line_232 {fr M1 M2 b1 b2 : Nat} {Q : RS → Nat → AH → Prop} {h : AH} {s0 : Int} {R : Int → AH → Prop}   (hS : Sp mX12_number true (fr - 1) 0 0 [zR 98, zI 0, zI 9] 137 (up h 98 31 s0) (rI R)) (hf : 1 ≤ fr := by omega) (kk : ∀ (x : Int) (h' : AH), R x h' → Wp mX12_line (kR fr M1 M2) Q (b1, b2) 243 [zR 98] [zI x, zR 98] 137 h') : Wp mX12_line (kR fr M1 M2) Q (b1, b2) 232 [zR 98] [zI s0, zR 98] 137 h := by
  refine s_put (c := 98) dX12_line_232 lX12_238 e98 ?_
  refine s_aload_n (x := 98) dX12_line_235 rfl ?_
  refine s_aload_n (x := 98) dX12_line_236 rfl ?_
  refine s_iconst dX12_line_237 ?_
  refine s_bipush dX12_line_238 (by decide) ?_
  exact s_callV (as := [zI 0, zI 9]) (st := [zR 98]) (o := 98) dX12_line_240 kX12_206 rfl ⟨12, 87, TX12, e98, rfl, by decide⟩ rfl rfl (Nat.le_of_ble_eq_true rfl) hS (show fr - 1 + 1 ≤ fr by omega) (Nat.zero_le _) (Nat.zero_le _) (fun v n' h' hP _ => by obtain ⟨x, e, rfl, hR⟩ := hP; cases e; exact kk x h' hR) (fun E n' h' _ z => (rI_nt _ _ _ z).elim)
theorem bX12_line_243 {fr M1 M2 b1 b2 : Nat} {Q : RS → Nat → AH → Prop} {h : AH} {s0 : Int} {R : Int → AH → Prop}   (hS : Sp mX12_number true (fr - 1) 0 0 [zR 98, zI 0, zI 99] 137 (up h 98 32 s0) (rI R)) (hf : 1 ≤ fr := by omega) (kk : ∀ (x : Int) (h' : AH), R x h' → Wp mX12_line (kR fr M1 M2) Q (b1, b2) 254 [zR 98] [zI x, zR 98] 137 h') : Wp mX12_line (kR fr M1 M2) Q (b1, b2) 243 [zR 98] [zI s0, zR 98] 137 h := by
  refine s_put (c := 98) dX12_line_243 lX12_241 e98 ?_
  refine s_aload_n (x := 98) dX12_line_246 rfl ?_
  refine s_aload_n (x := 98) dX12_line_247 rfl ?_
  refine s_iconst dX12_line_248 ?_
  refine s_bipush dX12_line_249 (by decide) ?_
  exact s_callV (as := [zI 0, zI 99]) (st := [zR 98]) (o := 98) dX12_line_251 kX12_206 rfl ⟨12, 87, TX12, e98, rfl, by decide⟩ rfl rfl (Nat.le_of_ble_eq_true rfl) hS (show fr - 1 + 1 ≤ fr by omega) (Nat.zero_le _) (Nat.zero_le _) (fun v n' h' hP _ => by obtain ⟨x, e, rfl, hR⟩ := hP; cases e; exact kk x h' hR) (fun E n' h' _ z => (rI_nt _ _ _ z).elim)
theorem bX12_line_254 {fr M1 M2 b1 b2 : Nat} {Q : RS → Nat → AH → Prop} {h : AH} {s0 : Int}   (kk : Wp mX12_line (kR fr M1 M2) Q (b1, b2) 312 [zR 98] [] 137 (up h 98 33 s0)) : Wp mX12_line (kR fr M1 M2) Q (b1, b2) 254 [zR 98] [zI s0, zR 98] 137 h := by
  refine s_put (c := 98) dX12_line_254 lX12_244 e98 ?_
  exact s_goto (tgt := 312) dX12_line_257 (by decide) kk
theorem bX12_line_260 {fr M1 M2 b1 b2 : Nat} {Q : RS → Nat → AH → Prop} {h : AH} {R : Int → AH → Prop}   (hS : Sp mX12_is true (fr - 1) 0 0 [zR 98, zI 5] 137 h (rI R)) (hf : 1 ≤ fr := by omega) (kk : ∀ (x : Int) (h' : AH), R x h' → Wp mX12_line (kR fr M1 M2) Q (b1, b2) 265 [zR 98] [zI x] 137 h') : Wp mX12_line (kR fr M1 M2) Q (b1, b2) 260 [zR 98] [] 137 h := by
  refine s_aload_n (x := 98) dX12_line_260 rfl ?_
  refine s_iconst dX12_line_261 ?_
  exact s_callV (as := [zI 5]) (st := []) (o := 98) dX12_line_262 kX12_210 rfl ⟨12, 87, TX12, e98, rfl, by decide⟩ rfl rfl (Nat.le_of_ble_eq_true rfl) hS (show fr - 1 + 1 ≤ fr by omega) (Nat.zero_le _) (Nat.zero_le _) (fun v n' h' hP _ => by obtain ⟨x, e, rfl, hR⟩ := hP; cases e; exact kk x h' hR) (fun E n' h' _ z => (rI_nt _ _ _ z).elim)
theorem bX12_line_265 {fr M1 M2 b1 b2 : Nat} {Q : RS → Nat → AH → Prop} {h : AH} {s0 : Int}  (r1 : -2147483648 ≤ s0 ∧ s0 < 2147483648 := by omega) (kt : s0 = 0 → Wp mX12_line (kR fr M1 M2) Q (b1, b2) 275 [zR 98] [] 137 h) (kf : ¬ s0 = 0 → Wp mX12_line (kR fr M1 M2) Q (b1, b2) 268 [zR 98] [] 137 h) : Wp mX12_line (kR fr M1 M2) Q (b1, b2) 265 [zR 98] [zI s0] 137 h := by
  exact s_if_eq (tgt := 275) dX12_line_265 (by decide) r1 kt kf
theorem bX12_line_268 {fr M1 M2 b1 b2 : Nat} {Q : RS → Nat → AH → Prop} {h : AH} {R : AH → Prop}   (hS : Sp mX12_readsSweet true (fr - 1) 0 0 [zR 98] 137 h (rV R)) (hf : 1 ≤ fr := by omega) (kk : ∀ h' : AH, R h' → Wp mX12_line (kR fr M1 M2) Q (b1, b2) 272 [zR 98] [] 137 h') : Wp mX12_line (kR fr M1 M2) Q (b1, b2) 268 [zR 98] [] 137 h := by
  refine s_aload_n (x := 98) dX12_line_268 rfl ?_
  exact s_callV (as := []) (st := []) (o := 98) dX12_line_269 kX12_247 rfl ⟨12, 87, TX12, e98, rfl, by decide⟩ rfl rfl (Nat.le_of_ble_eq_true rfl) hS (show fr - 1 + 1 ≤ fr by omega) (Nat.zero_le _) (Nat.zero_le _) (fun v n' h' hP _ => by obtain ⟨e, rfl, hR⟩ := hP; cases e; exact kk h' hR) (fun E n' h' _ z => (rV_nt _ _ _ z).elim)
theorem bX12_line_272 {fr M1 M2 b1 b2 : Nat} {Q : RS → Nat → AH → Prop} {h : AH}   (kk : Wp mX12_line (kR fr M1 M2) Q (b1, b2) 312 [zR 98] [] 137 h) : Wp mX12_line (kR fr M1 M2) Q (b1, b2) 272 [zR 98] [] 137 h := by
  exact s_goto (tgt := 312) dX12_line_272 (by decide) kk
theorem bX12_line_275 {fr M1 M2 b1 b2 : Nat} {Q : RS → Nat → AH → Prop} {h : AH} {R : Int → AH → Prop}   (hS : Sp mX12_is true (fr - 1) 0 0 [zR 98, zI 6] 137 h (rI R)) (hf : 1 ≤ fr := by omega) (kk : ∀ (x : Int) (h' : AH), R x h' → Wp mX12_line (kR fr M1 M2) Q (b1, b2) 281 [zR 98] [zI x] 137 h') : Wp mX12_line (kR fr M1 M2) Q (b1, b2) 275 [zR 98] [] 137 h := by
  refine s_aload_n (x := 98) dX12_line_275 rfl ?_
  refine s_bipush dX12_line_276 (by decide) ?_
  exact s_callV (as := [zI 6]) (st := []) (o := 98) dX12_line_278 kX12_210 rfl ⟨12, 87, TX12, e98, rfl, by decide⟩ rfl rfl (Nat.le_of_ble_eq_true rfl) hS (show fr - 1 + 1 ≤ fr by omega) (Nat.zero_le _) (Nat.zero_le _) (fun v n' h' hP _ => by obtain ⟨x, e, rfl, hR⟩ := hP; cases e; exact kk x h' hR) (fun E n' h' _ z => (rI_nt _ _ _ z).elim)
theorem bX12_line_281 {fr M1 M2 b1 b2 : Nat} {Q : RS → Nat → AH → Prop} {h : AH} {s0 : Int}  (r1 : -2147483648 ≤ s0 ∧ s0 < 2147483648 := by omega) (kt : s0 = 0 → Wp mX12_line (kR fr M1 M2) Q (b1, b2) 291 [zR 98] [] 137 h) (kf : ¬ s0 = 0 → Wp mX12_line (kR fr M1 M2) Q (b1, b2) 284 [zR 98] [] 137 h) : Wp mX12_line (kR fr M1 M2) Q (b1, b2) 281 [zR 98] [zI s0] 137 h := by
  exact s_if_eq (tgt := 291) dX12_line_281 (by decide) r1 kt kf
theorem bX12_line_284 {fr M1 M2 b1 b2 : Nat} {Q : RS → Nat → AH → Prop} {h : AH} {R : AH → Prop}   (hS : Sp mX12_readsWord true (fr - 1) 0 0 [zR 98] 137 h (rV R)) (hf : 1 ≤ fr := by omega) (kk : ∀ h' : AH, R h' → Wp mX12_line (kR fr M1 M2) Q (b1, b2) 288 [zR 98] [] 137 h') : Wp mX12_line (kR fr M1 M2) Q (b1, b2) 284 [zR 98] [] 137 h := by
  refine s_aload_n (x := 98) dX12_line_284 rfl ?_
  exact s_callV (as := []) (st := []) (o := 98) dX12_line_285 kX12_250 rfl ⟨12, 87, TX12, e98, rfl, by decide⟩ rfl rfl (Nat.le_of_ble_eq_true rfl) hS (show fr - 1 + 1 ≤ fr by omega) (Nat.zero_le _) (Nat.zero_le _) (fun v n' h' hP _ => by obtain ⟨e, rfl, hR⟩ := hP; cases e; exact kk h' hR) (fun E n' h' _ z => (rV_nt _ _ _ z).elim)
theorem bX12_line_288 {fr M1 M2 b1 b2 : Nat} {Q : RS → Nat → AH → Prop} {h : AH}   (kk : Wp mX12_line (kR fr M1 M2) Q (b1, b2) 312 [zR 98] [] 137 h) : Wp mX12_line (kR fr M1 M2) Q (b1, b2) 288 [zR 98] [] 137 h := by
  exact s_goto (tgt := 312) dX12_line_288 (by decide) kk
theorem bX12_line_291 {fr M1 M2 b1 b2 : Nat} {Q : RS → Nat → AH → Prop} {h : AH} {R : Int → AH → Prop}   (hS : Sp mX12_is true (fr - 1) 0 0 [zR 98, zI 7] 137 h (rI R)) (hf : 1 ≤ fr := by omega) (kk : ∀ (x : Int) (h' : AH), R x h' → Wp mX12_line (kR fr M1 M2) Q (b1, b2) 297 [zR 98] [zI x] 137 h') : Wp mX12_line (kR fr M1 M2) Q (b1, b2) 291 [zR 98] [] 137 h := by
  refine s_aload_n (x := 98) dX12_line_291 rfl ?_
  refine s_bipush dX12_line_292 (by decide) ?_
  exact s_callV (as := [zI 7]) (st := []) (o := 98) dX12_line_294 kX12_210 rfl ⟨12, 87, TX12, e98, rfl, by decide⟩ rfl rfl (Nat.le_of_ble_eq_true rfl) hS (show fr - 1 + 1 ≤ fr by omega) (Nat.zero_le _) (Nat.zero_le _) (fun v n' h' hP _ => by obtain ⟨x, e, rfl, hR⟩ := hP; cases e; exact kk x h' hR) (fun E n' h' _ z => (rI_nt _ _ _ z).elim)
theorem bX12_line_297 {fr M1 M2 b1 b2 : Nat} {Q : RS → Nat → AH → Prop} {h : AH} {s0 : Int}  (r1 : -2147483648 ≤ s0 ∧ s0 < 2147483648 := by omega) (kt : s0 = 0 → Wp mX12_line (kR fr M1 M2) Q (b1, b2) 307 [zR 98] [] 137 h) (kf : ¬ s0 = 0 → Wp mX12_line (kR fr M1 M2) Q (b1, b2) 300 [zR 98] [] 137 h) : Wp mX12_line (kR fr M1 M2) Q (b1, b2) 297 [zR 98] [zI s0] 137 h := by
  exact s_if_eq (tgt := 307) dX12_line_297 (by decide) r1 kt kf
theorem bX12_line_300 {fr M1 M2 b1 b2 : Nat} {Q : RS → Nat → AH → Prop} {h : AH} {R : AH → Prop}   (hS : Sp mX12_readsForm true (fr - 1) 0 0 [zR 98] 137 h (rV R)) (hf : 1 ≤ fr := by omega) (kk : ∀ h' : AH, R h' → Wp mX12_line (kR fr M1 M2) Q (b1, b2) 304 [zR 98] [] 137 h') : Wp mX12_line (kR fr M1 M2) Q (b1, b2) 300 [zR 98] [] 137 h := by
  refine s_aload_n (x := 98) dX12_line_300 rfl ?_
  exact s_callV (as := []) (st := []) (o := 98) dX12_line_301 kX12_253 rfl ⟨12, 87, TX12, e98, rfl, by decide⟩ rfl rfl (Nat.le_of_ble_eq_true rfl) hS (show fr - 1 + 1 ≤ fr by omega) (Nat.zero_le _) (Nat.zero_le _) (fun v n' h' hP _ => by obtain ⟨e, rfl, hR⟩ := hP; cases e; exact kk h' hR) (fun E n' h' _ z => (rV_nt _ _ _ z).elim)
theorem bX12_line_304 {fr M1 M2 b1 b2 : Nat} {Q : RS → Nat → AH → Prop} {h : AH}   (kk : Wp mX12_line (kR fr M1 M2) Q (b1, b2) 312 [zR 98] [] 137 h) : Wp mX12_line (kR fr M1 M2) Q (b1, b2) 304 [zR 98] [] 137 h := by
  exact s_goto (tgt := 312) dX12_line_304 (by decide) kk
theorem bX12_line_307 {fr M1 M2 b1 b2 : Nat} {Q : RS → Nat → AH → Prop} {h : AH} {R : AH → Prop}   (hS : Sp mX12_wrong true (fr - 1) 0 0 [zR 98, zI 1] 137 h (rV R)) (hf : 1 ≤ fr := by omega) (kk : ∀ h' : AH, R h' → Wp mX12_line (kR fr M1 M2) Q (b1, b2) 312 [zR 98] [] 137 h') : Wp mX12_line (kR fr M1 M2) Q (b1, b2) 307 [zR 98] [] 137 h := by
  refine s_aload_n (x := 98) dX12_line_307 rfl ?_
  refine s_iconst dX12_line_308 ?_
  exact s_callV (as := [zI 1]) (st := []) (o := 98) dX12_line_309 kX12_197 rfl ⟨12, 87, TX12, e98, rfl, by decide⟩ rfl rfl (Nat.le_of_ble_eq_true rfl) hS (show fr - 1 + 1 ≤ fr by omega) (Nat.zero_le _) (Nat.zero_le _) (fun v n' h' hP _ => by obtain ⟨e, rfl, hR⟩ := hP; cases e; exact kk h' hR) (fun E n' h' _ z => (rV_nt _ _ _ z).elim)
theorem bX12_line_312 {fr M1 M2 b1 b2 : Nat} {Q : RS → Nat → AH → Prop} {h : AH}  (r1 : -2147483648 ≤ h 98 22 ∧ h 98 22 < 2147483648 := by omega) (kt : ¬ h 98 22 = 3 → Wp mX12_line (kR fr M1 M2) Q (b1, b2) 325 [zR 98] [zR 98] 137 h) (kf : h 98 22 = 3 → Wp mX12_line (kR fr M1 M2) Q (b1, b2) 321 [zR 98] [zR 98] 137 h) : Wp mX12_line (kR fr M1 M2) Q (b1, b2) 312 [zR 98] [] 137 h := by
  refine s_aload_n (x := 98) dX12_line_312 rfl ?_
  refine s_aload_n (x := 98) dX12_line_313 rfl ?_
  refine s_get (c := 98) dX12_line_314 lX12_166 e98 (by decide) ?_
  refine s_iconst dX12_line_317 ?_
  exact s_icmp_ne (tgt := 325) dX12_line_318 (by decide) r1 ⟨by decide, by decide⟩ kt kf
theorem bX12_line_321 {fr M1 M2 b1 b2 : Nat} {Q : RS → Nat → AH → Prop} {h : AH} {x0 : AV}   (kk : Wp mX12_line (kR fr M1 M2) Q (b1, b2) 326 [none] [zI 1, zR 98] 137 h) : Wp mX12_line (kR fr M1 M2) Q (b1, b2) 321 [x0] [zR 98] 137 h := by
  refine s_fgt (fgt_n _ fgt_0) ?_
  refine s_iconst dX12_line_321 ?_
  exact s_goto (tgt := 326) dX12_line_322 (by decide) kk
theorem bX12_line_325 {fr M1 M2 b1 b2 : Nat} {Q : RS → Nat → AH → Prop} {h : AH} {x0 : AV}   (kk : Wp mX12_line (kR fr M1 M2) Q (b1, b2) 326 [none] [zI 0, zR 98] 137 h) : Wp mX12_line (kR fr M1 M2) Q (b1, b2) 325 [x0] [zR 98] 137 h := by
  refine s_fgt (fgt_n _ fgt_0) ?_
  refine s_iconst dX12_line_325 ?_
  exact kk
theorem bX12_line_326 {fr M1 M2 b1 b2 : Nat} {Q : RS → Nat → AH → Prop} {h : AH} {s0 : Int} {x0 : AV} {R : AH → Prop}   (hS : Sp mX12_need true (fr - 1) 0 0 [zR 98, zI s0] 137 h (rV R)) (hf : 1 ≤ fr := by omega) (kk : ∀ h' : AH, R h' → Wp mX12_line (kR fr M1 M2) Q (b1, b2) 329 [none] [] 137 h') : Wp mX12_line (kR fr M1 M2) Q (b1, b2) 326 [x0] [zI s0, zR 98] 137 h := by
  refine s_fgt (fgt_n _ fgt_0) ?_
  exact s_callV (as := [zI s0]) (st := []) (o := 98) dX12_line_326 kX12_256 rfl ⟨12, 87, TX12, e98, rfl, by decide⟩ rfl rfl (Nat.le_of_ble_eq_true rfl) hS (show fr - 1 + 1 ≤ fr by omega) (Nat.zero_le _) (Nat.zero_le _) (fun v n' h' hP _ => by obtain ⟨e, rfl, hR⟩ := hP; cases e; exact kk h' hR) (fun E n' h' _ z => (rV_nt _ _ _ z).elim)
theorem bX12_line_329 {fr M1 M2 b1 b2 : Nat} {Q : RS → Nat → AH → Prop} {h : AH} {x0 : AV}   (hq : Q (.inl none) 137 h) : Wp mX12_line (kR fr M1 M2) Q (b1, b2) 329 [x0] [] 137 h := by
  refine s_fgt (fgt_n _ fgt_0) ?_
  exact s_return dX12_line_329 rfl hq (fun z => by cases z)
theorem dX12_gorge_0 : decode mX12_gorge.cd 0 = .ok (.aload_n 0, 1) := by decide +kernel
theorem dX12_gorge_1 : decode mX12_gorge.cd 1 = .ok (.iconst 0, 1) := by decide +kernel
theorem dX12_gorge_2 : decode mX12_gorge.cd 2 = .ok (.putfield 136, 3) := by decide +kernel
theorem dX12_gorge_5 : decode mX12_gorge.cd 5 = .ok (.aload_n 0, 1) := by decide +kernel
theorem dX12_gorge_6 : decode mX12_gorge.cd 6 = .ok (.iload_n 1, 1) := by decide +kernel
theorem dX12_gorge_7 : decode mX12_gorge.cd 7 = .ok (.ifCond .lt 15, 3) := by decide +kernel
theorem dX12_gorge_10 : decode mX12_gorge.cd 10 = .ok (.iload_n 1, 1) := by decide +kernel
theorem dX12_gorge_11 : decode mX12_gorge.cd 11 = .ok (.aload_n 0, 1) := by decide +kernel
theorem dX12_gorge_12 : decode mX12_gorge.cd 12 = .ok (.getfield 139, 3) := by decide +kernel
theorem dX12_gorge_15 : decode mX12_gorge.cd 15 = .ok (.if_icmp .gt 7, 3) := by decide +kernel
theorem dX12_gorge_18 : decode mX12_gorge.cd 18 = .ok (.iconst 1, 1) := by decide +kernel
theorem dX12_gorge_19 : decode mX12_gorge.cd 19 = .ok (.goto 4, 3) := by decide +kernel
theorem dX12_gorge_22 : decode mX12_gorge.cd 22 = .ok (.iconst 0, 1) := by decide +kernel
theorem dX12_gorge_23 : decode mX12_gorge.cd 23 = .ok (.iconst 1, 1) := by decide +kernel
theorem dX12_gorge_24 : decode mX12_gorge.cd 24 = .ok (.invokevirtual 260, 3) := by decide +kernel
theorem dX12_gorge_27 : decode mX12_gorge.cd 27 = .ok (.ifCond .ne 5, 3) := by decide +kernel
theorem dX12_gorge_30 : decode mX12_gorge.cd 30 = .ok (.iconst 0, 1) := by decide +kernel
theorem dX12_gorge_31 : decode mX12_gorge.cd 31 = .ok (.ireturn, 1) := by decide +kernel
theorem dX12_gorge_32 : decode mX12_gorge.cd 32 = .ok (.aload_n 0, 1) := by decide +kernel
theorem dX12_gorge_33 : decode mX12_gorge.cd 33 = .ok (.iconst 0, 1) := by decide +kernel
theorem dX12_gorge_34 : decode mX12_gorge.cd 34 = .ok (.putfield 139, 3) := by decide +kernel
theorem dX12_gorge_37 : decode mX12_gorge.cd 37 = .ok (.aload_n 0, 1) := by decide +kernel
theorem dX12_gorge_38 : decode mX12_gorge.cd 38 = .ok (.iconst (-1), 1) := by decide +kernel
theorem dX12_gorge_39 : decode mX12_gorge.cd 39 = .ok (.putfield 38, 3) := by decide +kernel
theorem dX12_gorge_42 : decode mX12_gorge.cd 42 = .ok (.aload_n 0, 1) := by decide +kernel
theorem dX12_gorge_43 : decode mX12_gorge.cd 43 = .ok (.iconst 0, 1) := by decide +kernel
theorem dX12_gorge_44 : decode mX12_gorge.cd 44 = .ok (.putfield 187, 3) := by decide +kernel
theorem dX12_gorge_47 : decode mX12_gorge.cd 47 = .ok (.aload_n 0, 1) := by decide +kernel
theorem dX12_gorge_48 : decode mX12_gorge.cd 48 = .ok (.iload_n 1, 1) := by decide +kernel
theorem dX12_gorge_49 : decode mX12_gorge.cd 49 = .ok (.putfield 146, 3) := by decide +kernel
theorem dX12_gorge_52 : decode mX12_gorge.cd 52 = .ok (.aload_n 0, 1) := by decide +kernel
theorem dX12_gorge_53 : decode mX12_gorge.cd 53 = .ok (.iconst 0, 1) := by decide +kernel
theorem dX12_gorge_54 : decode mX12_gorge.cd 54 = .ok (.putfield 149, 3) := by decide +kernel
theorem dX12_gorge_57 : decode mX12_gorge.cd 57 = .ok (.aload_n 0, 1) := by decide +kernel
theorem dX12_gorge_58 : decode mX12_gorge.cd 58 = .ok (.iconst 0, 1) := by decide +kernel
theorem dX12_gorge_59 : decode mX12_gorge.cd 59 = .ok (.putfield 200, 3) := by decide +kernel
theorem dX12_gorge_62 : decode mX12_gorge.cd 62 = .ok (.aload_n 0, 1) := by decide +kernel
theorem dX12_gorge_63 : decode mX12_gorge.cd 63 = .ok (.iconst 0, 1) := by decide +kernel
theorem dX12_gorge_64 : decode mX12_gorge.cd 64 = .ok (.putfield 203, 3) := by decide +kernel
theorem dX12_gorge_67 : decode mX12_gorge.cd 67 = .ok (.aload_n 0, 1) := by decide +kernel
theorem dX12_gorge_68 : decode mX12_gorge.cd 68 = .ok (.iconst 0, 1) := by decide +kernel
theorem dX12_gorge_69 : decode mX12_gorge.cd 69 = .ok (.putfield 216, 3) := by decide +kernel
theorem dX12_gorge_72 : decode mX12_gorge.cd 72 = .ok (.aload_n 0, 1) := by decide +kernel
theorem dX12_gorge_73 : decode mX12_gorge.cd 73 = .ok (.iconst 0, 1) := by decide +kernel
theorem dX12_gorge_74 : decode mX12_gorge.cd 74 = .ok (.putfield 219, 3) := by decide +kernel
theorem dX12_gorge_77 : decode mX12_gorge.cd 77 = .ok (.aload_n 0, 1) := by decide +kernel
theorem dX12_gorge_78 : decode mX12_gorge.cd 78 = .ok (.iconst 1, 1) := by decide +kernel
theorem dX12_gorge_79 : decode mX12_gorge.cd 79 = .ok (.putfield 238, 3) := by decide +kernel
theorem dX12_gorge_82 : decode mX12_gorge.cd 82 = .ok (.aload_n 0, 1) := by decide +kernel
theorem dX12_gorge_83 : decode mX12_gorge.cd 83 = .ok (.iconst 0, 1) := by decide +kernel
theorem dX12_gorge_84 : decode mX12_gorge.cd 84 = .ok (.putfield 241, 3) := by decide +kernel
theorem dX12_gorge_87 : decode mX12_gorge.cd 87 = .ok (.aload_n 0, 1) := by decide +kernel
theorem dX12_gorge_88 : decode mX12_gorge.cd 88 = .ok (.iconst 0, 1) := by decide +kernel
theorem dX12_gorge_89 : decode mX12_gorge.cd 89 = .ok (.putfield 244, 3) := by decide +kernel
theorem dX12_gorge_92 : decode mX12_gorge.cd 92 = .ok (.aload_n 0, 1) := by decide +kernel
theorem dX12_gorge_93 : decode mX12_gorge.cd 93 = .ok (.iconst 0, 1) := by decide +kernel
theorem dX12_gorge_94 : decode mX12_gorge.cd 94 = .ok (.putfield 222, 3) := by decide +kernel
theorem dX12_gorge_97 : decode mX12_gorge.cd 97 = .ok (.aload_n 0, 1) := by decide +kernel
theorem dX12_gorge_98 : decode mX12_gorge.cd 98 = .ok (.iconst 0, 1) := by decide +kernel
theorem dX12_gorge_99 : decode mX12_gorge.cd 99 = .ok (.putfield 228, 3) := by decide +kernel
theorem dX12_gorge_102 : decode mX12_gorge.cd 102 = .ok (.aload_n 0, 1) := by decide +kernel
theorem dX12_gorge_103 : decode mX12_gorge.cd 103 = .ok (.iconst 0, 1) := by decide +kernel
theorem dX12_gorge_104 : decode mX12_gorge.cd 104 = .ok (.putfield 235, 3) := by decide +kernel
theorem dX12_gorge_107 : decode mX12_gorge.cd 107 = .ok (.iconst 0, 1) := by decide +kernel
theorem dX12_gorge_108 : decode mX12_gorge.cd 108 = .ok (.istore_n 2, 1) := by decide +kernel
theorem dX12_gorge_109 : decode mX12_gorge.cd 109 = .ok (.iload_n 2, 1) := by decide +kernel
theorem dX12_gorge_110 : decode mX12_gorge.cd 110 = .ok (.iconst 3, 1) := by decide +kernel
theorem dX12_gorge_111 : decode mX12_gorge.cd 111 = .ok (.if_icmp .ge 16, 3) := by decide +kernel
theorem dX12_gorge_114 : decode mX12_gorge.cd 114 = .ok (.aload_n 0, 1) := by decide +kernel
theorem dX12_gorge_115 : decode mX12_gorge.cd 115 = .ok (.getfield 56, 3) := by decide +kernel
theorem dX12_gorge_118 : decode mX12_gorge.cd 118 = .ok (.iload_n 2, 1) := by decide +kernel
theorem dX12_gorge_119 : decode mX12_gorge.cd 119 = .ok (.iconst 0, 1) := by decide +kernel
theorem dX12_gorge_120 : decode mX12_gorge.cd 120 = .ok (.iastore, 1) := by decide +kernel
theorem dX12_gorge_121 : decode mX12_gorge.cd 121 = .ok (.iinc 2 1, 3) := by decide +kernel
theorem dX12_gorge_124 : decode mX12_gorge.cd 124 = .ok (.goto (-15), 3) := by decide +kernel
theorem dX12_gorge_127 : decode mX12_gorge.cd 127 = .ok (.iconst 0, 1) := by decide +kernel
theorem dX12_gorge_128 : decode mX12_gorge.cd 128 = .ok (.istore_n 2, 1) := by decide +kernel
theorem dX12_gorge_129 : decode mX12_gorge.cd 129 = .ok (.iload_n 2, 1) := by decide +kernel
theorem dX12_gorge_130 : decode mX12_gorge.cd 130 = .ok (.bipush 24, 2) := by decide +kernel
theorem dX12_gorge_132 : decode mX12_gorge.cd 132 = .ok (.if_icmp .ge 17, 3) := by decide +kernel
theorem dX12_gorge_135 : decode mX12_gorge.cd 135 = .ok (.aload_n 0, 1) := by decide +kernel
theorem dX12_gorge_136 : decode mX12_gorge.cd 136 = .ok (.getfield 59, 3) := by decide +kernel
theorem dX12_gorge_139 : decode mX12_gorge.cd 139 = .ok (.iload_n 2, 1) := by decide +kernel
theorem dX12_gorge_140 : decode mX12_gorge.cd 140 = .ok (.bipush 100, 2) := by decide +kernel
theorem dX12_gorge_142 : decode mX12_gorge.cd 142 = .ok (.iastore, 1) := by decide +kernel
theorem dX12_gorge_143 : decode mX12_gorge.cd 143 = .ok (.iinc 2 1, 3) := by decide +kernel
theorem dX12_gorge_146 : decode mX12_gorge.cd 146 = .ok (.goto (-17), 3) := by decide +kernel
theorem dX12_gorge_149 : decode mX12_gorge.cd 149 = .ok (.iconst 0, 1) := by decide +kernel
theorem dX12_gorge_150 : decode mX12_gorge.cd 150 = .ok (.istore_n 2, 1) := by decide +kernel
theorem dX12_gorge_151 : decode mX12_gorge.cd 151 = .ok (.iload_n 2, 1) := by decide +kernel
theorem dX12_gorge_152 : decode mX12_gorge.cd 152 = .ok (.bipush 8, 2) := by decide +kernel
theorem dX12_gorge_154 : decode mX12_gorge.cd 154 = .ok (.if_icmp .ge 16, 3) := by decide +kernel
theorem dX12_gorge_157 : decode mX12_gorge.cd 157 = .ok (.aload_n 0, 1) := by decide +kernel
theorem dX12_gorge_158 : decode mX12_gorge.cd 158 = .ok (.getfield 62, 3) := by decide +kernel
theorem dX12_gorge_161 : decode mX12_gorge.cd 161 = .ok (.iload_n 2, 1) := by decide +kernel
theorem dX12_gorge_162 : decode mX12_gorge.cd 162 = .ok (.iconst 0, 1) := by decide +kernel
theorem dX12_gorge_163 : decode mX12_gorge.cd 163 = .ok (.iastore, 1) := by decide +kernel
theorem dX12_gorge_164 : decode mX12_gorge.cd 164 = .ok (.iinc 2 1, 3) := by decide +kernel
theorem dX12_gorge_167 : decode mX12_gorge.cd 167 = .ok (.goto (-16), 3) := by decide +kernel
theorem dX12_gorge_170 : decode mX12_gorge.cd 170 = .ok (.aload_n 0, 1) := by decide +kernel
theorem dX12_gorge_171 : decode mX12_gorge.cd 171 = .ok (.invokevirtual 194, 3) := by decide +kernel
theorem dX12_gorge_174 : decode mX12_gorge.cd 174 = .ok (.aload_n 0, 1) := by decide +kernel
theorem dX12_gorge_175 : decode mX12_gorge.cd 175 = .ok (.invokevirtual 190, 3) := by decide +kernel
theorem dX12_gorge_178 : decode mX12_gorge.cd 178 = .ok (.ifCond .eq 17, 3) := by decide +kernel
theorem dX12_gorge_181 : decode mX12_gorge.cd 181 = .ok (.aload_n 0, 1) := by decide +kernel
theorem dX12_gorge_182 : decode mX12_gorge.cd 182 = .ok (.getfield 166, 3) := by decide +kernel
theorem dX12_gorge_185 : decode mX12_gorge.cd 185 = .ok (.ifCond .eq 10, 3) := by decide +kernel
theorem dX12_gorge_188 : decode mX12_gorge.cd 188 = .ok (.aload_n 0, 1) := by decide +kernel
theorem dX12_gorge_189 : decode mX12_gorge.cd 189 = .ok (.invokevirtual 264, 3) := by decide +kernel
theorem dX12_gorge_192 : decode mX12_gorge.cd 192 = .ok (.goto (-18), 3) := by decide +kernel
theorem dX12_gorge_195 : decode mX12_gorge.cd 195 = .ok (.aload_n 0, 1) := by decide +kernel
theorem dX12_gorge_196 : decode mX12_gorge.cd 196 = .ok (.invokevirtual 190, 3) := by decide +kernel
theorem dX12_gorge_199 : decode mX12_gorge.cd 199 = .ok (.ifCond .ne 18, 3) := by decide +kernel
theorem dX12_gorge_202 : decode mX12_gorge.cd 202 = .ok (.aload_n 0, 1) := by decide +kernel
theorem dX12_gorge_203 : decode mX12_gorge.cd 203 = .ok (.getfield 41, 3) := by decide +kernel
theorem dX12_gorge_206 : decode mX12_gorge.cd 206 = .ok (.iconst 0, 1) := by decide +kernel
theorem dX12_gorge_207 : decode mX12_gorge.cd 207 = .ok (.dup2, 1) := by decide +kernel
theorem dX12_gorge_208 : decode mX12_gorge.cd 208 = .ok (.iaload, 1) := by decide +kernel
theorem dX12_gorge_209 : decode mX12_gorge.cd 209 = .ok (.iconst 1, 1) := by decide +kernel
theorem dX12_gorge_210 : decode mX12_gorge.cd 210 = .ok (.iadd, 1) := by decide +kernel
theorem dX12_gorge_211 : decode mX12_gorge.cd 211 = .ok (.iastore, 1) := by decide +kernel
theorem dX12_gorge_212 : decode mX12_gorge.cd 212 = .ok (.aload_n 0, 1) := by decide +kernel
theorem dX12_gorge_213 : decode mX12_gorge.cd 213 = .ok (.getfield 187, 3) := by decide +kernel
theorem dX12_gorge_216 : decode mX12_gorge.cd 216 = .ok (.ireturn, 1) := by decide +kernel
theorem dX12_gorge_217 : decode mX12_gorge.cd 217 = .ok (.aload_n 0, 1) := by decide +kernel
theorem dX12_gorge_218 : decode mX12_gorge.cd 218 = .ok (.aload_n 0, 1) := by decide +kernel
theorem dX12_gorge_219 : decode mX12_gorge.cd 219 = .ok (.getfield 200, 3) := by decide +kernel
theorem dX12_gorge_222 : decode mX12_gorge.cd 222 = .ok (.putfield 267, 3) := by decide +kernel
theorem dX12_gorge_225 : decode mX12_gorge.cd 225 = .ok (.aload_n 0, 1) := by decide +kernel
theorem dX12_gorge_226 : decode mX12_gorge.cd 226 = .ok (.aload_n 0, 1) := by decide +kernel
theorem dX12_gorge_227 : decode mX12_gorge.cd 227 = .ok (.getfield 203, 3) := by decide +kernel
theorem dX12_gorge_230 : decode mX12_gorge.cd 230 = .ok (.putfield 270, 3) := by decide +kernel
theorem dX12_gorge_233 : decode mX12_gorge.cd 233 = .ok (.aload_n 0, 1) := by decide +kernel
theorem dX12_gorge_234 : decode mX12_gorge.cd 234 = .ok (.aload_n 0, 1) := by decide +kernel
theorem dX12_gorge_235 : decode mX12_gorge.cd 235 = .ok (.getfield 216, 3) := by decide +kernel
theorem dX12_gorge_238 : decode mX12_gorge.cd 238 = .ok (.putfield 273, 3) := by decide +kernel
theorem dX12_gorge_241 : decode mX12_gorge.cd 241 = .ok (.aload_n 0, 1) := by decide +kernel
theorem dX12_gorge_242 : decode mX12_gorge.cd 242 = .ok (.aload_n 0, 1) := by decide +kernel
theorem dX12_gorge_243 : decode mX12_gorge.cd 243 = .ok (.getfield 219, 3) := by decide +kernel
theorem dX12_gorge_246 : decode mX12_gorge.cd 246 = .ok (.putfield 276, 3) := by decide +kernel
theorem dX12_gorge_249 : decode mX12_gorge.cd 249 = .ok (.aload_n 0, 1) := by decide +kernel
theorem dX12_gorge_250 : decode mX12_gorge.cd 250 = .ok (.aload_n 0, 1) := by decide +kernel
theorem dX12_gorge_251 : decode mX12_gorge.cd 251 = .ok (.getfield 238, 3) := by decide +kernel
theorem dX12_gorge_254 : decode mX12_gorge.cd 254 = .ok (.putfield 7, 3) := by decide +kernel
theorem dX12_gorge_257 : decode mX12_gorge.cd 257 = .ok (.aload_n 0, 1) := by decide +kernel
theorem dX12_gorge_258 : decode mX12_gorge.cd 258 = .ok (.aload_n 0, 1) := by decide +kernel
theorem dX12_gorge_259 : decode mX12_gorge.cd 259 = .ok (.getfield 241, 3) := by decide +kernel
theorem dX12_gorge_262 : decode mX12_gorge.cd 262 = .ok (.putfield 279, 3) := by decide +kernel
theorem dX12_gorge_265 : decode mX12_gorge.cd 265 = .ok (.aload_n 0, 1) := by decide +kernel
theorem dX12_gorge_266 : decode mX12_gorge.cd 266 = .ok (.aload_n 0, 1) := by decide +kernel
theorem dX12_gorge_267 : decode mX12_gorge.cd 267 = .ok (.getfield 244, 3) := by decide +kernel
theorem dX12_gorge_270 : decode mX12_gorge.cd 270 = .ok (.putfield 282, 3) := by decide +kernel
theorem dX12_gorge_273 : decode mX12_gorge.cd 273 = .ok (.aload_n 0, 1) := by decide +kernel
theorem dX12_gorge_274 : decode mX12_gorge.cd 274 = .ok (.aload_n 0, 1) := by decide +kernel
theorem dX12_gorge_275 : decode mX12_gorge.cd 275 = .ok (.getfield 44, 3) := by decide +kernel
theorem dX12_gorge_278 : decode mX12_gorge.cd 278 = .ok (.aload_n 0, 1) := by decide +kernel
theorem dX12_gorge_279 : decode mX12_gorge.cd 279 = .ok (.getfield 13, 3) := by decide +kernel
theorem dX12_gorge_282 : decode mX12_gorge.cd 282 = .ok (.invokevirtual 285, 3) := by decide +kernel
theorem dX12_gorge_285 : decode mX12_gorge.cd 285 = .ok (.aload_n 0, 1) := by decide +kernel
theorem dX12_gorge_286 : decode mX12_gorge.cd 286 = .ok (.aload_n 0, 1) := by decide +kernel
theorem dX12_gorge_287 : decode mX12_gorge.cd 287 = .ok (.getfield 47, 3) := by decide +kernel
theorem dX12_gorge_290 : decode mX12_gorge.cd 290 = .ok (.aload_n 0, 1) := by decide +kernel
theorem dX12_gorge_291 : decode mX12_gorge.cd 291 = .ok (.getfield 17, 3) := by decide +kernel
theorem dX12_gorge_294 : decode mX12_gorge.cd 294 = .ok (.invokevirtual 285, 3) := by decide +kernel
theorem dX12_gorge_297 : decode mX12_gorge.cd 297 = .ok (.aload_n 0, 1) := by decide +kernel
theorem dX12_gorge_298 : decode mX12_gorge.cd 298 = .ok (.aload_n 0, 1) := by decide +kernel
theorem dX12_gorge_299 : decode mX12_gorge.cd 299 = .ok (.getfield 50, 3) := by decide +kernel
theorem dX12_gorge_302 : decode mX12_gorge.cd 302 = .ok (.aload_n 0, 1) := by decide +kernel
theorem dX12_gorge_303 : decode mX12_gorge.cd 303 = .ok (.getfield 20, 3) := by decide +kernel
theorem dX12_gorge_306 : decode mX12_gorge.cd 306 = .ok (.invokevirtual 285, 3) := by decide +kernel
theorem dX12_gorge_309 : decode mX12_gorge.cd 309 = .ok (.aload_n 0, 1) := by decide +kernel
theorem dX12_gorge_310 : decode mX12_gorge.cd 310 = .ok (.aload_n 0, 1) := by decide +kernel
theorem dX12_gorge_311 : decode mX12_gorge.cd 311 = .ok (.getfield 53, 3) := by decide +kernel
theorem dX12_gorge_314 : decode mX12_gorge.cd 314 = .ok (.aload_n 0, 1) := by decide +kernel
theorem dX12_gorge_315 : decode mX12_gorge.cd 315 = .ok (.getfield 23, 3) := by decide +kernel
theorem dX12_gorge_318 : decode mX12_gorge.cd 318 = .ok (.invokevirtual 285, 3) := by decide +kernel
theorem dX12_gorge_321 : decode mX12_gorge.cd 321 = .ok (.aload_n 0, 1) := by decide +kernel
theorem dX12_gorge_322 : decode mX12_gorge.cd 322 = .ok (.aload_n 0, 1) := by decide +kernel
theorem dX12_gorge_323 : decode mX12_gorge.cd 323 = .ok (.getfield 56, 3) := by decide +kernel
theorem dX12_gorge_326 : decode mX12_gorge.cd 326 = .ok (.aload_n 0, 1) := by decide +kernel
theorem dX12_gorge_327 : decode mX12_gorge.cd 327 = .ok (.getfield 26, 3) := by decide +kernel
theorem dX12_gorge_330 : decode mX12_gorge.cd 330 = .ok (.invokevirtual 285, 3) := by decide +kernel
theorem dX12_gorge_333 : decode mX12_gorge.cd 333 = .ok (.aload_n 0, 1) := by decide +kernel
theorem dX12_gorge_334 : decode mX12_gorge.cd 334 = .ok (.aload_n 0, 1) := by decide +kernel
theorem dX12_gorge_335 : decode mX12_gorge.cd 335 = .ok (.getfield 59, 3) := by decide +kernel
theorem dX12_gorge_338 : decode mX12_gorge.cd 338 = .ok (.aload_n 0, 1) := by decide +kernel
theorem dX12_gorge_339 : decode mX12_gorge.cd 339 = .ok (.getfield 29, 3) := by decide +kernel
theorem dX12_gorge_342 : decode mX12_gorge.cd 342 = .ok (.invokevirtual 285, 3) := by decide +kernel
theorem dX12_gorge_345 : decode mX12_gorge.cd 345 = .ok (.aload_n 0, 1) := by decide +kernel
theorem dX12_gorge_346 : decode mX12_gorge.cd 346 = .ok (.aload_n 0, 1) := by decide +kernel
theorem dX12_gorge_347 : decode mX12_gorge.cd 347 = .ok (.getfield 62, 3) := by decide +kernel
theorem dX12_gorge_350 : decode mX12_gorge.cd 350 = .ok (.aload_n 0, 1) := by decide +kernel
theorem dX12_gorge_351 : decode mX12_gorge.cd 351 = .ok (.getfield 32, 3) := by decide +kernel
theorem dX12_gorge_354 : decode mX12_gorge.cd 354 = .ok (.invokevirtual 285, 3) := by decide +kernel
theorem dX12_gorge_357 : decode mX12_gorge.cd 357 = .ok (.aload_n 0, 1) := by decide +kernel
theorem dX12_gorge_358 : decode mX12_gorge.cd 358 = .ok (.iconst 0, 1) := by decide +kernel
theorem dX12_gorge_359 : decode mX12_gorge.cd 359 = .ok (.putfield 289, 3) := by decide +kernel
theorem dX12_gorge_362 : decode mX12_gorge.cd 362 = .ok (.aload_n 0, 1) := by decide +kernel
theorem dX12_gorge_363 : decode mX12_gorge.cd 363 = .ok (.iconst 0, 1) := by decide +kernel
theorem dX12_gorge_364 : decode mX12_gorge.cd 364 = .ok (.putfield 292, 3) := by decide +kernel
theorem dX12_gorge_367 : decode mX12_gorge.cd 367 = .ok (.aload_n 0, 1) := by decide +kernel
theorem dX12_gorge_368 : decode mX12_gorge.cd 368 = .ok (.iconst 0, 1) := by decide +kernel
theorem dX12_gorge_369 : decode mX12_gorge.cd 369 = .ok (.putfield 295, 3) := by decide +kernel
theorem dX12_gorge_372 : decode mX12_gorge.cd 372 = .ok (.iconst 0, 1) := by decide +kernel
theorem dX12_gorge_373 : decode mX12_gorge.cd 373 = .ok (.istore_n 2, 1) := by decide +kernel
theorem dX12_gorge_374 : decode mX12_gorge.cd 374 = .ok (.iload_n 2, 1) := by decide +kernel
theorem dX12_gorge_375 : decode mX12_gorge.cd 375 = .ok (.bipush 16, 2) := by decide +kernel
theorem dX12_gorge_377 : decode mX12_gorge.cd 377 = .ok (.if_icmp .ge 16, 3) := by decide +kernel
theorem dX12_gorge_380 : decode mX12_gorge.cd 380 = .ok (.aload_n 0, 1) := by decide +kernel
theorem dX12_gorge_381 : decode mX12_gorge.cd 381 = .ok (.getfield 92, 3) := by decide +kernel
theorem dX12_gorge_384 : decode mX12_gorge.cd 384 = .ok (.iload_n 2, 1) := by decide +kernel
theorem dX12_gorge_385 : decode mX12_gorge.cd 385 = .ok (.iconst (-1), 1) := by decide +kernel
theorem dX12_gorge_386 : decode mX12_gorge.cd 386 = .ok (.iastore, 1) := by decide +kernel
theorem dX12_gorge_387 : decode mX12_gorge.cd 387 = .ok (.iinc 2 1, 3) := by decide +kernel
theorem dX12_gorge_390 : decode mX12_gorge.cd 390 = .ok (.goto (-16), 3) := by decide +kernel
theorem dX12_gorge_393 : decode mX12_gorge.cd 393 = .ok (.iconst 0, 1) := by decide +kernel
theorem dX12_gorge_394 : decode mX12_gorge.cd 394 = .ok (.istore_n 2, 1) := by decide +kernel
theorem dX12_gorge_395 : decode mX12_gorge.cd 395 = .ok (.iload_n 2, 1) := by decide +kernel
theorem dX12_gorge_396 : decode mX12_gorge.cd 396 = .ok (.bipush 6, 2) := by decide +kernel
theorem dX12_gorge_398 : decode mX12_gorge.cd 398 = .ok (.if_icmp .ge 16, 3) := by decide +kernel
theorem dX12_gorge_401 : decode mX12_gorge.cd 401 = .ok (.aload_n 0, 1) := by decide +kernel
theorem dX12_gorge_402 : decode mX12_gorge.cd 402 = .ok (.getfield 108, 3) := by decide +kernel
theorem dX12_gorge_405 : decode mX12_gorge.cd 405 = .ok (.iload_n 2, 1) := by decide +kernel
theorem dX12_gorge_406 : decode mX12_gorge.cd 406 = .ok (.iconst 0, 1) := by decide +kernel
theorem dX12_gorge_407 : decode mX12_gorge.cd 407 = .ok (.iastore, 1) := by decide +kernel
theorem dX12_gorge_408 : decode mX12_gorge.cd 408 = .ok (.iinc 2 1, 3) := by decide +kernel
theorem dX12_gorge_411 : decode mX12_gorge.cd 411 = .ok (.goto (-16), 3) := by decide +kernel
theorem dX12_gorge_414 : decode mX12_gorge.cd 414 = .ok (.aload_n 0, 1) := by decide +kernel
theorem dX12_gorge_415 : decode mX12_gorge.cd 415 = .ok (.iconst 0, 1) := by decide +kernel
theorem dX12_gorge_416 : decode mX12_gorge.cd 416 = .ok (.putfield 298, 3) := by decide +kernel
theorem dX12_gorge_419 : decode mX12_gorge.cd 419 = .ok (.iconst 0, 1) := by decide +kernel
theorem dX12_gorge_420 : decode mX12_gorge.cd 420 = .ok (.ireturn, 1) := by decide +kernel
theorem bX12_gorge_0 {fr M1 M2 b1 b2 : Nat} {Q : RS → Nat → AH → Prop} {h : AH} {l1 : Int} {x2 : AV}  (r1 : -2147483648 ≤ l1 ∧ l1 < 2147483648 := by omega) (kt : l1 < 0 → Wp mX12_gorge (kR fr M1 M2) Q (b1, b2) 22 [zR 98, zI l1, none] [zR 98] 137 (up h 98 0 0)) (kf : 0 ≤ l1 → Wp mX12_gorge (kR fr M1 M2) Q (b1, b2) 10 [zR 98, zI l1, none] [zR 98] 137 (up h 98 0 0)) : Wp mX12_gorge (kR fr M1 M2) Q (b1, b2) 0 [zR 98, zI l1, x2] [] 137 h := by
  refine s_fgt (fgt_c (fgt_c (fgt_n _ fgt_0))) ?_
  refine s_aload_n (x := 98) dX12_gorge_0 rfl ?_
  refine s_iconst dX12_gorge_1 ?_
  refine s_put (c := 98) dX12_gorge_2 lX12_136 e98 ?_
  refine s_aload_n (x := 98) dX12_gorge_5 rfl ?_
  refine s_iload_n (x := l1) dX12_gorge_6 rfl ?_
  exact s_if_lt (tgt := 22) dX12_gorge_7 (by decide) r1 kt kf
theorem bX12_gorge_10 {fr M1 M2 b1 b2 : Nat} {Q : RS → Nat → AH → Prop} {h : AH} {l1 : Int} {x2 : AV}  (r1 : -2147483648 ≤ l1 ∧ l1 < 2147483648 := by omega) (r2 : -2147483648 ≤ h 98 16 ∧ h 98 16 < 2147483648 := by omega) (kt : h 98 16 < l1 → Wp mX12_gorge (kR fr M1 M2) Q (b1, b2) 22 [zR 98, zI l1, none] [zR 98] 137 h) (kf : l1 ≤ h 98 16 → Wp mX12_gorge (kR fr M1 M2) Q (b1, b2) 18 [zR 98, zI l1, none] [zR 98] 137 h) : Wp mX12_gorge (kR fr M1 M2) Q (b1, b2) 10 [zR 98, zI l1, x2] [zR 98] 137 h := by
  refine s_fgt (fgt_c (fgt_c (fgt_n _ fgt_0))) ?_
  refine s_iload_n (x := l1) dX12_gorge_10 rfl ?_
  refine s_aload_n (x := 98) dX12_gorge_11 rfl ?_
  refine s_get (c := 98) dX12_gorge_12 lX12_139 e98 (by decide) ?_
  exact s_icmp_gt (tgt := 22) dX12_gorge_15 (by decide) r1 r2 kt kf
theorem bX12_gorge_18 {fr M1 M2 b1 b2 : Nat} {Q : RS → Nat → AH → Prop} {h : AH} {l1 : Int} {x2 : AV}   (kk : Wp mX12_gorge (kR fr M1 M2) Q (b1, b2) 23 [zR 98, zI l1, none] [zI 1, zR 98] 137 h) : Wp mX12_gorge (kR fr M1 M2) Q (b1, b2) 18 [zR 98, zI l1, x2] [zR 98] 137 h := by
  refine s_fgt (fgt_c (fgt_c (fgt_n _ fgt_0))) ?_
  refine s_iconst dX12_gorge_18 ?_
  exact s_goto (tgt := 23) dX12_gorge_19 (by decide) kk
theorem bX12_gorge_22 {fr M1 M2 b1 b2 : Nat} {Q : RS → Nat → AH → Prop} {h : AH} {l1 : Int} {x2 : AV}   (kk : Wp mX12_gorge (kR fr M1 M2) Q (b1, b2) 23 [zR 98, zI l1, none] [zI 0, zR 98] 137 h) : Wp mX12_gorge (kR fr M1 M2) Q (b1, b2) 22 [zR 98, zI l1, x2] [zR 98] 137 h := by
  refine s_fgt (fgt_c (fgt_c (fgt_n _ fgt_0))) ?_
  refine s_iconst dX12_gorge_22 ?_
  exact kk
theorem bX12_gorge_23 {fr M1 M2 b1 b2 : Nat} {Q : RS → Nat → AH → Prop} {h : AH} {l1 s0 : Int} {x2 : AV} {R : Int → AH → Prop}   (hS : Sp mX12_right true (fr - 1) 0 0 [zR 98, zI s0, zI 1] 137 h (rI R)) (hf : 1 ≤ fr := by omega) (kk : ∀ (x : Int) (h' : AH), R x h' → Wp mX12_gorge (kR fr M1 M2) Q (b1, b2) 27 [zR 98, zI l1, none] [zI x] 137 h') : Wp mX12_gorge (kR fr M1 M2) Q (b1, b2) 23 [zR 98, zI l1, x2] [zI s0, zR 98] 137 h := by
  refine s_fgt (fgt_c (fgt_c (fgt_n _ fgt_0))) ?_
  refine s_iconst dX12_gorge_23 ?_
  exact s_callV (as := [zI s0, zI 1]) (st := []) (o := 98) dX12_gorge_24 kX12_260 rfl ⟨12, 87, TX12, e98, rfl, by decide⟩ rfl rfl (Nat.le_of_ble_eq_true rfl) hS (show fr - 1 + 1 ≤ fr by omega) (Nat.zero_le _) (Nat.zero_le _) (fun v n' h' hP _ => by obtain ⟨x, e, rfl, hR⟩ := hP; cases e; exact kk x h' hR) (fun E n' h' _ z => (rI_nt _ _ _ z).elim)
theorem bX12_gorge_27 {fr M1 M2 b1 b2 : Nat} {Q : RS → Nat → AH → Prop} {h : AH} {l1 s0 : Int} {x2 : AV}  (r1 : -2147483648 ≤ s0 ∧ s0 < 2147483648 := by omega) (kt : ¬ s0 = 0 → Wp mX12_gorge (kR fr M1 M2) Q (b1, b2) 32 [zR 98, zI l1, none] [] 137 h) (kf : s0 = 0 → Wp mX12_gorge (kR fr M1 M2) Q (b1, b2) 30 [zR 98, zI l1, none] [] 137 h) : Wp mX12_gorge (kR fr M1 M2) Q (b1, b2) 27 [zR 98, zI l1, x2] [zI s0] 137 h := by
  refine s_fgt (fgt_c (fgt_c (fgt_n _ fgt_0))) ?_
  exact s_if_ne (tgt := 32) dX12_gorge_27 (by decide) r1 kt kf
theorem bX12_gorge_30 {fr M1 M2 b1 b2 : Nat} {Q : RS → Nat → AH → Prop} {h : AH} {x0 x1 x2 : AV}   (hq : Q (.inl (some (zI 0))) 137 h) : Wp mX12_gorge (kR fr M1 M2) Q (b1, b2) 30 [x0, x1, x2] [] 137 h := by
  refine s_fgt (fgt_n _ (fgt_n _ (fgt_n _ fgt_0))) ?_
  refine s_iconst dX12_gorge_30 ?_
  exact s_ireturn dX12_gorge_31 ⟨.int, rfl, rfl⟩ hq (fun z => by cases z)
theorem bX12_gorge_32 {fr M1 M2 b1 b2 : Nat} {Q : RS → Nat → AH → Prop} {h : AH} {l1 : Int} {x2 : AV}   (kk : Wp mX12_gorge (kR fr M1 M2) Q (b1, b2) 109 [zR 98, zI l1, zI 0] [] 137 (up (up (up (up (up (up (up (up (up (up (up (up (up (up (up h 98 16 0) 98 18 (-1)) 98 17 0) 98 20 l1) 98 21 0) 98 27 0) 98 28 0) 98 29 0) 98 30 0) 98 31 1) 98 32 0) 98 33 0) 98 34 0) 98 35 0) 98 36 0)) : Wp mX12_gorge (kR fr M1 M2) Q (b1, b2) 32 [zR 98, zI l1, x2] [] 137 h := by
  refine s_fgt (fgt_c (fgt_c (fgt_n _ fgt_0))) ?_
  refine s_aload_n (x := 98) dX12_gorge_32 rfl ?_
  refine s_iconst dX12_gorge_33 ?_
  refine s_put (c := 98) dX12_gorge_34 lX12_139 e98 ?_
  refine s_aload_n (x := 98) dX12_gorge_37 rfl ?_
  refine s_iconst dX12_gorge_38 ?_
  refine s_put (c := 98) dX12_gorge_39 lX12_38 e98 ?_
  refine s_aload_n (x := 98) dX12_gorge_42 rfl ?_
  refine s_iconst dX12_gorge_43 ?_
  refine s_put (c := 98) dX12_gorge_44 lX12_187 e98 ?_
  refine s_aload_n (x := 98) dX12_gorge_47 rfl ?_
  refine s_iload_n (x := l1) dX12_gorge_48 rfl ?_
  refine s_put (c := 98) dX12_gorge_49 lX12_146 e98 ?_
  refine s_aload_n (x := 98) dX12_gorge_52 rfl ?_
  refine s_iconst dX12_gorge_53 ?_
  refine s_put (c := 98) dX12_gorge_54 lX12_149 e98 ?_
  refine s_aload_n (x := 98) dX12_gorge_57 rfl ?_
  refine s_iconst dX12_gorge_58 ?_
  refine s_put (c := 98) dX12_gorge_59 lX12_200 e98 ?_
  refine s_aload_n (x := 98) dX12_gorge_62 rfl ?_
  refine s_iconst dX12_gorge_63 ?_
  refine s_put (c := 98) dX12_gorge_64 lX12_203 e98 ?_
  refine s_aload_n (x := 98) dX12_gorge_67 rfl ?_
  refine s_iconst dX12_gorge_68 ?_
  refine s_put (c := 98) dX12_gorge_69 lX12_216 e98 ?_
  refine s_aload_n (x := 98) dX12_gorge_72 rfl ?_
  refine s_iconst dX12_gorge_73 ?_
  refine s_put (c := 98) dX12_gorge_74 lX12_219 e98 ?_
  refine s_aload_n (x := 98) dX12_gorge_77 rfl ?_
  refine s_iconst dX12_gorge_78 ?_
  refine s_put (c := 98) dX12_gorge_79 lX12_238 e98 ?_
  refine s_aload_n (x := 98) dX12_gorge_82 rfl ?_
  refine s_iconst dX12_gorge_83 ?_
  refine s_put (c := 98) dX12_gorge_84 lX12_241 e98 ?_
  refine s_aload_n (x := 98) dX12_gorge_87 rfl ?_
  refine s_iconst dX12_gorge_88 ?_
  refine s_put (c := 98) dX12_gorge_89 lX12_244 e98 ?_
  refine s_aload_n (x := 98) dX12_gorge_92 rfl ?_
  refine s_iconst dX12_gorge_93 ?_
  refine s_put (c := 98) dX12_gorge_94 lX12_222 e98 ?_
  refine s_aload_n (x := 98) dX12_gorge_97 rfl ?_
  refine s_iconst dX12_gorge_98 ?_
  refine s_putZ (c := 98) dX12_gorge_99 lX12_228 e98 (by decide) ?_
  refine s_aload_n (x := 98) dX12_gorge_102 rfl ?_
  refine s_iconst dX12_gorge_103 ?_
  refine s_putZ (c := 98) dX12_gorge_104 lX12_235 e98 (by decide) ?_
  refine s_iconst dX12_gorge_107 ?_
  refine s_istore_n dX12_gorge_108 rfl (by decide) ?_
  exact kk
theorem bX12_gorge_109 {fr M1 M2 b1 b2 : Nat} {Q : RS → Nat → AH → Prop} {h : AH} {l2 : Int} {x1 : AV}  (r1 : -2147483648 ≤ l2 ∧ l2 < 2147483648 := by omega) (kt : 3 ≤ l2 → Wp mX12_gorge (kR fr M1 M2) Q (b1, b2) 127 [zR 98, none, zI l2] [] 137 h) (kf : l2 < 3 → Wp mX12_gorge (kR fr M1 M2) Q (b1, b2) 114 [zR 98, none, zI l2] [] 137 h) : Wp mX12_gorge (kR fr M1 M2) Q (b1, b2) 109 [zR 98, x1, zI l2] [] 137 h := by
  refine s_fgt (fgt_c (fgt_n _ (fgt_c fgt_0))) ?_
  refine s_iload_n (x := l2) dX12_gorge_109 rfl ?_
  refine s_iconst dX12_gorge_110 ?_
  exact s_icmp_ge (tgt := 127) dX12_gorge_111 (by decide) r1 ⟨by decide, by decide⟩ kt kf
theorem bX12_gorge_114 {fr M1 M2 b1 b2 : Nat} {Q : RS → Nat → AH → Prop} {h : AH} {l2 : Int} {x1 : AV}  (r1 : 0 ≤ l2 ∧ l2 < 3 := by omega) (kk : Wp mX12_gorge (kR fr M1 M2) Q (b1, b2) 109 [zR 98, none, zI (l2 + 1)] [] 137 (up h 112 l2 0)) : Wp mX12_gorge (kR fr M1 M2) Q (b1, b2) 114 [zR 98, x1, zI l2] [] 137 h := by
  refine s_fgt (fgt_c (fgt_n _ (fgt_c fgt_0))) ?_
  refine s_aload_n (x := 98) dX12_gorge_114 rfl ?_
  refine s_getFd (c := 98) (d := 112) dX12_gorge_115 lX12_56 e98 (Or.inl rfl) (by decide) (by decide) ?_
  refine s_iload_n (x := l2) dX12_gorge_118 rfl ?_
  refine s_iconst dX12_gorge_119 ?_
  refine s_iast (c := 112) (i := l2) dX12_gorge_120 e112 r1.1 r1.2 ?_
  refine s_iinc (x := l2) dX12_gorge_121 rfl rfl (by decide) ?_
  exact s_goto (tgt := 109) dX12_gorge_124 (by decide) kk
theorem bX12_gorge_127 {fr M1 M2 b1 b2 : Nat} {Q : RS → Nat → AH → Prop} {h : AH} {x1 x2 : AV}   (kk : Wp mX12_gorge (kR fr M1 M2) Q (b1, b2) 129 [zR 98, none, zI 0] [] 137 h) : Wp mX12_gorge (kR fr M1 M2) Q (b1, b2) 127 [zR 98, x1, x2] [] 137 h := by
  refine s_fgt (fgt_c (fgt_n _ (fgt_n _ fgt_0))) ?_
  refine s_iconst dX12_gorge_127 ?_
  refine s_istore_n dX12_gorge_128 rfl (by decide) ?_
  exact kk
theorem bX12_gorge_129 {fr M1 M2 b1 b2 : Nat} {Q : RS → Nat → AH → Prop} {h : AH} {l2 : Int} {x1 : AV}  (r1 : -2147483648 ≤ l2 ∧ l2 < 2147483648 := by omega) (kt : 24 ≤ l2 → Wp mX12_gorge (kR fr M1 M2) Q (b1, b2) 149 [zR 98, none, zI l2] [] 137 h) (kf : l2 < 24 → Wp mX12_gorge (kR fr M1 M2) Q (b1, b2) 135 [zR 98, none, zI l2] [] 137 h) : Wp mX12_gorge (kR fr M1 M2) Q (b1, b2) 129 [zR 98, x1, zI l2] [] 137 h := by
  refine s_fgt (fgt_c (fgt_n _ (fgt_c fgt_0))) ?_
  refine s_iload_n (x := l2) dX12_gorge_129 rfl ?_
  refine s_bipush dX12_gorge_130 (by decide) ?_
  exact s_icmp_ge (tgt := 149) dX12_gorge_132 (by decide) r1 ⟨by decide, by decide⟩ kt kf
theorem bX12_gorge_135 {fr M1 M2 b1 b2 : Nat} {Q : RS → Nat → AH → Prop} {h : AH} {l2 : Int} {x1 : AV}  (r1 : 0 ≤ l2 ∧ l2 < 24 := by omega) (kk : Wp mX12_gorge (kR fr M1 M2) Q (b1, b2) 129 [zR 98, none, zI (l2 + 1)] [] 137 (up h 113 l2 100)) : Wp mX12_gorge (kR fr M1 M2) Q (b1, b2) 135 [zR 98, x1, zI l2] [] 137 h := by
  refine s_fgt (fgt_c (fgt_n _ (fgt_c fgt_0))) ?_
  refine s_aload_n (x := 98) dX12_gorge_135 rfl ?_
  refine s_getFd (c := 98) (d := 113) dX12_gorge_136 lX12_59 e98 (Or.inl rfl) (by decide) (by decide) ?_
  refine s_iload_n (x := l2) dX12_gorge_139 rfl ?_
  refine s_bipush dX12_gorge_140 (by decide) ?_
  refine s_iast (c := 113) (i := l2) dX12_gorge_142 e113 r1.1 r1.2 ?_
  refine s_iinc (x := l2) dX12_gorge_143 rfl rfl (by decide) ?_
  exact s_goto (tgt := 129) dX12_gorge_146 (by decide) kk
theorem bX12_gorge_149 {fr M1 M2 b1 b2 : Nat} {Q : RS → Nat → AH → Prop} {h : AH} {x1 x2 : AV}   (kk : Wp mX12_gorge (kR fr M1 M2) Q (b1, b2) 151 [zR 98, none, zI 0] [] 137 h) : Wp mX12_gorge (kR fr M1 M2) Q (b1, b2) 149 [zR 98, x1, x2] [] 137 h := by
  refine s_fgt (fgt_c (fgt_n _ (fgt_n _ fgt_0))) ?_
  refine s_iconst dX12_gorge_149 ?_
  refine s_istore_n dX12_gorge_150 rfl (by decide) ?_
  exact kk
theorem bX12_gorge_151 {fr M1 M2 b1 b2 : Nat} {Q : RS → Nat → AH → Prop} {h : AH} {l2 : Int} {x1 : AV}  (r1 : -2147483648 ≤ l2 ∧ l2 < 2147483648 := by omega) (kt : 8 ≤ l2 → Wp mX12_gorge (kR fr M1 M2) Q (b1, b2) 170 [zR 98, none, zI l2] [] 137 h) (kf : l2 < 8 → Wp mX12_gorge (kR fr M1 M2) Q (b1, b2) 157 [zR 98, none, zI l2] [] 137 h) : Wp mX12_gorge (kR fr M1 M2) Q (b1, b2) 151 [zR 98, x1, zI l2] [] 137 h := by
  refine s_fgt (fgt_c (fgt_n _ (fgt_c fgt_0))) ?_
  refine s_iload_n (x := l2) dX12_gorge_151 rfl ?_
  refine s_bipush dX12_gorge_152 (by decide) ?_
  exact s_icmp_ge (tgt := 170) dX12_gorge_154 (by decide) r1 ⟨by decide, by decide⟩ kt kf
theorem bX12_gorge_157 {fr M1 M2 b1 b2 : Nat} {Q : RS → Nat → AH → Prop} {h : AH} {l2 : Int} {x1 : AV}  (r1 : 0 ≤ l2 ∧ l2 < 8 := by omega) (kk : Wp mX12_gorge (kR fr M1 M2) Q (b1, b2) 151 [zR 98, none, zI (l2 + 1)] [] 137 (up h 114 l2 0)) : Wp mX12_gorge (kR fr M1 M2) Q (b1, b2) 157 [zR 98, x1, zI l2] [] 137 h := by
  refine s_fgt (fgt_c (fgt_n _ (fgt_c fgt_0))) ?_
  refine s_aload_n (x := 98) dX12_gorge_157 rfl ?_
  refine s_getFd (c := 98) (d := 114) dX12_gorge_158 lX12_62 e98 (Or.inl rfl) (by decide) (by decide) ?_
  refine s_iload_n (x := l2) dX12_gorge_161 rfl ?_
  refine s_iconst dX12_gorge_162 ?_
  refine s_iast (c := 114) (i := l2) dX12_gorge_163 e114 r1.1 r1.2 ?_
  refine s_iinc (x := l2) dX12_gorge_164 rfl rfl (by decide) ?_
  exact s_goto (tgt := 151) dX12_gorge_167 (by decide) kk
theorem bX12_gorge_170 {fr M1 M2 b1 b2 : Nat} {Q : RS → Nat → AH → Prop} {h : AH} {x1 x2 : AV} {R : AH → Prop}   (hS : Sp mX12_steps true (fr - 1) 0 0 [zR 98] 137 h (rV R)) (hf : 1 ≤ fr := by omega) (kk : ∀ h' : AH, R h' → Wp mX12_gorge (kR fr M1 M2) Q (b1, b2) 174 [zR 98, none, none] [] 137 h') : Wp mX12_gorge (kR fr M1 M2) Q (b1, b2) 170 [zR 98, x1, x2] [] 137 h := by
  refine s_fgt (fgt_c (fgt_n _ (fgt_n _ fgt_0))) ?_
  refine s_aload_n (x := 98) dX12_gorge_170 rfl ?_
  exact s_callV (as := []) (st := []) (o := 98) dX12_gorge_171 kX12_194 rfl ⟨12, 87, TX12, e98, rfl, by decide⟩ rfl rfl (Nat.le_of_ble_eq_true rfl) hS (show fr - 1 + 1 ≤ fr by omega) (Nat.zero_le _) (Nat.zero_le _) (fun v n' h' hP _ => by obtain ⟨e, rfl, hR⟩ := hP; cases e; exact kk h' hR) (fun E n' h' _ z => (rV_nt _ _ _ z).elim)
theorem bX12_gorge_174 {fr M1 M2 b1 b2 : Nat} {Q : RS → Nat → AH → Prop} {h : AH} {x1 x2 : AV} {R : Int → AH → Prop}   (hS : Sp mX12_isGood true (fr - 1) 0 0 [zR 98] 137 h (rI R)) (hf : 1 ≤ fr := by omega) (kk : ∀ (x : Int) (h' : AH), R x h' → Wp mX12_gorge (kR fr M1 M2) Q (b1, b2) 178 [zR 98, none, none] [zI x] 137 h') : Wp mX12_gorge (kR fr M1 M2) Q (b1, b2) 174 [zR 98, x1, x2] [] 137 h := by
  refine s_fgt (fgt_c (fgt_n _ (fgt_n _ fgt_0))) ?_
  refine s_aload_n (x := 98) dX12_gorge_174 rfl ?_
  exact s_callV (as := []) (st := []) (o := 98) dX12_gorge_175 kX12_190 rfl ⟨12, 87, TX12, e98, rfl, by decide⟩ rfl rfl (Nat.le_of_ble_eq_true rfl) hS (show fr - 1 + 1 ≤ fr by omega) (Nat.zero_le _) (Nat.zero_le _) (fun v n' h' hP _ => by obtain ⟨x, e, rfl, hR⟩ := hP; cases e; exact kk x h' hR) (fun E n' h' _ z => (rI_nt _ _ _ z).elim)
theorem bX12_gorge_178 {fr M1 M2 b1 b2 : Nat} {Q : RS → Nat → AH → Prop} {h : AH} {s0 : Int} {x1 x2 : AV}  (r1 : -2147483648 ≤ s0 ∧ s0 < 2147483648 := by omega) (kt : s0 = 0 → Wp mX12_gorge (kR fr M1 M2) Q (b1, b2) 195 [zR 98, none, none] [] 137 h) (kf : ¬ s0 = 0 → Wp mX12_gorge (kR fr M1 M2) Q (b1, b2) 181 [zR 98, none, none] [] 137 h) : Wp mX12_gorge (kR fr M1 M2) Q (b1, b2) 178 [zR 98, x1, x2] [zI s0] 137 h := by
  refine s_fgt (fgt_c (fgt_n _ (fgt_n _ fgt_0))) ?_
  exact s_if_eq (tgt := 195) dX12_gorge_178 (by decide) r1 kt kf
theorem bX12_gorge_181 {fr M1 M2 b1 b2 : Nat} {Q : RS → Nat → AH → Prop} {h : AH} {x1 x2 : AV}  (r1 : -2147483648 ≤ h 98 22 ∧ h 98 22 < 2147483648 := by omega) (kt : h 98 22 = 0 → Wp mX12_gorge (kR fr M1 M2) Q (b1, b2) 195 [zR 98, none, none] [] 137 h) (kf : ¬ h 98 22 = 0 → Wp mX12_gorge (kR fr M1 M2) Q (b1, b2) 188 [zR 98, none, none] [] 137 h) : Wp mX12_gorge (kR fr M1 M2) Q (b1, b2) 181 [zR 98, x1, x2] [] 137 h := by
  refine s_fgt (fgt_c (fgt_n _ (fgt_n _ fgt_0))) ?_
  refine s_aload_n (x := 98) dX12_gorge_181 rfl ?_
  refine s_get (c := 98) dX12_gorge_182 lX12_166 e98 (by decide) ?_
  exact s_if_eq (tgt := 195) dX12_gorge_185 (by decide) r1 kt kf
theorem bX12_gorge_188 {fr M1 M2 b1 b2 : Nat} {Q : RS → Nat → AH → Prop} {h : AH} {x1 x2 : AV} {R : AH → Prop}   (hS : Sp mX12_line true (fr - 1) 0 0 [zR 98] 137 h (rV R)) (hf : 1 ≤ fr := by omega) (kk : ∀ h' : AH, R h' → Wp mX12_gorge (kR fr M1 M2) Q (b1, b2) 192 [zR 98, none, none] [] 137 h') : Wp mX12_gorge (kR fr M1 M2) Q (b1, b2) 188 [zR 98, x1, x2] [] 137 h := by
  refine s_fgt (fgt_c (fgt_n _ (fgt_n _ fgt_0))) ?_
  refine s_aload_n (x := 98) dX12_gorge_188 rfl ?_
  exact s_callV (as := []) (st := []) (o := 98) dX12_gorge_189 kX12_264 rfl ⟨12, 87, TX12, e98, rfl, by decide⟩ rfl rfl (Nat.le_of_ble_eq_true rfl) hS (show fr - 1 + 1 ≤ fr by omega) (Nat.zero_le _) (Nat.zero_le _) (fun v n' h' hP _ => by obtain ⟨e, rfl, hR⟩ := hP; cases e; exact kk h' hR) (fun E n' h' _ z => (rV_nt _ _ _ z).elim)
theorem bX12_gorge_192 {fr M1 M2 b1 b2 : Nat} {Q : RS → Nat → AH → Prop} {h : AH} {x1 x2 : AV}   (kk : Wp mX12_gorge (kR fr M1 M2) Q (b1, b2) 174 [zR 98, none, none] [] 137 h) : Wp mX12_gorge (kR fr M1 M2) Q (b1, b2) 192 [zR 98, x1, x2] [] 137 h := by
  refine s_fgt (fgt_c (fgt_n _ (fgt_n _ fgt_0))) ?_
  exact s_goto (tgt := 174) dX12_gorge_192 (by decide) kk
theorem bX12_gorge_195 {fr M1 M2 b1 b2 : Nat} {Q : RS → Nat → AH → Prop} {h : AH} {x1 x2 : AV} {R : Int → AH → Prop}   (hS : Sp mX12_isGood true (fr - 1) 0 0 [zR 98] 137 h (rI R)) (hf : 1 ≤ fr := by omega) (kk : ∀ (x : Int) (h' : AH), R x h' → Wp mX12_gorge (kR fr M1 M2) Q (b1, b2) 199 [zR 98, none, none] [zI x] 137 h') : Wp mX12_gorge (kR fr M1 M2) Q (b1, b2) 195 [zR 98, x1, x2] [] 137 h := by
  refine s_fgt (fgt_c (fgt_n _ (fgt_n _ fgt_0))) ?_
  refine s_aload_n (x := 98) dX12_gorge_195 rfl ?_
  exact s_callV (as := []) (st := []) (o := 98) dX12_gorge_196 kX12_190 rfl ⟨12, 87, TX12, e98, rfl, by decide⟩ rfl rfl (Nat.le_of_ble_eq_true rfl) hS (show fr - 1 + 1 ≤ fr by omega) (Nat.zero_le _) (Nat.zero_le _) (fun v n' h' hP _ => by obtain ⟨x, e, rfl, hR⟩ := hP; cases e; exact kk x h' hR) (fun E n' h' _ z => (rI_nt _ _ _ z).elim)
theorem bX12_gorge_199 {fr M1 M2 b1 b2 : Nat} {Q : RS → Nat → AH → Prop} {h : AH} {s0 : Int} {x1 x2 : AV}  (r1 : -2147483648 ≤ s0 ∧ s0 < 2147483648 := by omega) (kt : ¬ s0 = 0 → Wp mX12_gorge (kR fr M1 M2) Q (b1, b2) 217 [zR 98, none, none] [] 137 h) (kf : s0 = 0 → Wp mX12_gorge (kR fr M1 M2) Q (b1, b2) 202 [zR 98, none, none] [] 137 h) : Wp mX12_gorge (kR fr M1 M2) Q (b1, b2) 199 [zR 98, x1, x2] [zI s0] 137 h := by
  refine s_fgt (fgt_c (fgt_n _ (fgt_n _ fgt_0))) ?_
  exact s_if_ne (tgt := 217) dX12_gorge_199 (by decide) r1 kt kf
theorem bX12_gorge_202 {fr M1 M2 b1 b2 : Nat} {Q : RS → Nat → AH → Prop} {h : AH} {x1 x2 : AV}   (hq : Q (.inl (some (zI (h 98 17)))) 137 (up h 107 0 ((h 107 0) + 1))) : Wp mX12_gorge (kR fr M1 M2) Q (b1, b2) 202 [zR 98, x1, x2] [] 137 h := by
  refine s_fgt (fgt_c (fgt_n _ (fgt_n _ fgt_0))) ?_
  refine s_aload_n (x := 98) dX12_gorge_202 rfl ?_
  refine s_getFd (c := 98) (d := 107) dX12_gorge_203 lX12_41 e98 (Or.inl rfl) (by decide) (by decide) ?_
  refine s_iconst dX12_gorge_206 ?_
  refine s_dup2 dX12_gorge_207 rfl rfl ?_
  refine s_iald (c := 107) (i := 0) dX12_gorge_208 e107 (by decide) (by decide) ?_
  refine s_iconst dX12_gorge_209 ?_
  refine s_iadd dX12_gorge_210 ?_
  refine s_iast (c := 107) (i := 0) dX12_gorge_211 e107 (by decide) (by decide) ?_
  refine s_aload_n (x := 98) dX12_gorge_212 rfl ?_
  refine s_get (c := 98) dX12_gorge_213 lX12_187 e98 (by decide) ?_
  exact s_ireturn dX12_gorge_216 ⟨.int, rfl, rfl⟩ hq (fun z => by cases z)
theorem bX12_gorge_217 {fr M1 M2 b1 b2 : Nat} {Q : RS → Nat → AH → Prop} {h : AH} {x1 x2 : AV} {R : AH → Prop}   (hS : Sp mX12_copies true (fr - 1) 0 0 [zR 98, zR 108, zR 99] 137 (up (up (up (up (up (up (up h 98 1 (h 98 27)) 98 2 (h 98 28)) 98 3 (h 98 29)) 98 4 (h 98 30)) 98 5 (h 98 31)) 98 6 (h 98 32)) 98 7 (h 98 33)) (rV R)) (hf : 1 ≤ fr := by omega) (kk : ∀ h' : AH, R h' → Wp mX12_gorge (kR fr M1 M2) Q (b1, b2) 285 [zR 98, none, none] [] 137 h') : Wp mX12_gorge (kR fr M1 M2) Q (b1, b2) 217 [zR 98, x1, x2] [] 137 h := by
  refine s_fgt (fgt_c (fgt_n _ (fgt_n _ fgt_0))) ?_
  refine s_aload_n (x := 98) dX12_gorge_217 rfl ?_
  refine s_aload_n (x := 98) dX12_gorge_218 rfl ?_
  refine s_get (c := 98) dX12_gorge_219 lX12_200 e98 (by decide) ?_
  refine s_put (c := 98) dX12_gorge_222 lX12_267 e98 ?_
  refine s_aload_n (x := 98) dX12_gorge_225 rfl ?_
  refine s_aload_n (x := 98) dX12_gorge_226 rfl ?_
  refine s_get (c := 98) dX12_gorge_227 lX12_203 e98 (by decide) ?_
  refine s_put (c := 98) dX12_gorge_230 lX12_270 e98 ?_
  refine s_aload_n (x := 98) dX12_gorge_233 rfl ?_
  refine s_aload_n (x := 98) dX12_gorge_234 rfl ?_
  refine s_get (c := 98) dX12_gorge_235 lX12_216 e98 (by decide) ?_
  refine s_put (c := 98) dX12_gorge_238 lX12_273 e98 ?_
  refine s_aload_n (x := 98) dX12_gorge_241 rfl ?_
  refine s_aload_n (x := 98) dX12_gorge_242 rfl ?_
  refine s_get (c := 98) dX12_gorge_243 lX12_219 e98 (by decide) ?_
  refine s_put (c := 98) dX12_gorge_246 lX12_276 e98 ?_
  refine s_aload_n (x := 98) dX12_gorge_249 rfl ?_
  refine s_aload_n (x := 98) dX12_gorge_250 rfl ?_
  refine s_get (c := 98) dX12_gorge_251 lX12_238 e98 (by decide) ?_
  refine s_put (c := 98) dX12_gorge_254 lX12_7 e98 ?_
  refine s_aload_n (x := 98) dX12_gorge_257 rfl ?_
  refine s_aload_n (x := 98) dX12_gorge_258 rfl ?_
  refine s_get (c := 98) dX12_gorge_259 lX12_241 e98 (by decide) ?_
  refine s_put (c := 98) dX12_gorge_262 lX12_279 e98 ?_
  refine s_aload_n (x := 98) dX12_gorge_265 rfl ?_
  refine s_aload_n (x := 98) dX12_gorge_266 rfl ?_
  refine s_get (c := 98) dX12_gorge_267 lX12_244 e98 (by decide) ?_
  refine s_put (c := 98) dX12_gorge_270 lX12_282 e98 ?_
  refine s_aload_n (x := 98) dX12_gorge_273 rfl ?_
  refine s_aload_n (x := 98) dX12_gorge_274 rfl ?_
  refine s_getFd (c := 98) (d := 108) dX12_gorge_275 lX12_44 e98 (Or.inl rfl) (by decide) (by decide) ?_
  refine s_aload_n (x := 98) dX12_gorge_278 rfl ?_
  refine s_getFd (c := 98) (d := 99) dX12_gorge_279 lX12_13 e98 (Or.inl rfl) (by decide) (by decide) ?_
  exact s_callV (as := [zR 108, zR 99]) (st := []) (o := 98) dX12_gorge_282 kX12_285 rfl ⟨12, 87, TX12, e98, rfl, by decide⟩ rfl rfl (Nat.le_of_ble_eq_true rfl) hS (show fr - 1 + 1 ≤ fr by omega) (Nat.zero_le _) (Nat.zero_le _) (fun v n' h' hP _ => by obtain ⟨e, rfl, hR⟩ := hP; cases e; exact kk h' hR) (fun E n' h' _ z => (rV_nt _ _ _ z).elim)
theorem bX12_gorge_285 {fr M1 M2 b1 b2 : Nat} {Q : RS → Nat → AH → Prop} {h : AH} {x1 x2 : AV} {R : AH → Prop}   (hS : Sp mX12_copies true (fr - 1) 0 0 [zR 98, zR 109, zR 100] 137 h (rV R)) (hf : 1 ≤ fr := by omega) (kk : ∀ h' : AH, R h' → Wp mX12_gorge (kR fr M1 M2) Q (b1, b2) 297 [zR 98, none, none] [] 137 h') : Wp mX12_gorge (kR fr M1 M2) Q (b1, b2) 285 [zR 98, x1, x2] [] 137 h := by
  refine s_fgt (fgt_c (fgt_n _ (fgt_n _ fgt_0))) ?_
  refine s_aload_n (x := 98) dX12_gorge_285 rfl ?_
  refine s_aload_n (x := 98) dX12_gorge_286 rfl ?_
  refine s_getFd (c := 98) (d := 109) dX12_gorge_287 lX12_47 e98 (Or.inl rfl) (by decide) (by decide) ?_
  refine s_aload_n (x := 98) dX12_gorge_290 rfl ?_
  refine s_getFd (c := 98) (d := 100) dX12_gorge_291 lX12_17 e98 (Or.inl rfl) (by decide) (by decide) ?_
  exact s_callV (as := [zR 109, zR 100]) (st := []) (o := 98) dX12_gorge_294 kX12_285 rfl ⟨12, 87, TX12, e98, rfl, by decide⟩ rfl rfl (Nat.le_of_ble_eq_true rfl) hS (show fr - 1 + 1 ≤ fr by omega) (Nat.zero_le _) (Nat.zero_le _) (fun v n' h' hP _ => by obtain ⟨e, rfl, hR⟩ := hP; cases e; exact kk h' hR) (fun E n' h' _ z => (rV_nt _ _ _ z).elim)
theorem bX12_gorge_297 {fr M1 M2 b1 b2 : Nat} {Q : RS → Nat → AH → Prop} {h : AH} {x1 x2 : AV} {R : AH → Prop}   (hS : Sp mX12_copies true (fr - 1) 0 0 [zR 98, zR 110, zR 101] 137 h (rV R)) (hf : 1 ≤ fr := by omega) (kk : ∀ h' : AH, R h' → Wp mX12_gorge (kR fr M1 M2) Q (b1, b2) 309 [zR 98, none, none] [] 137 h') : Wp mX12_gorge (kR fr M1 M2) Q (b1, b2) 297 [zR 98, x1, x2] [] 137 h := by
  refine s_fgt (fgt_c (fgt_n _ (fgt_n _ fgt_0))) ?_
  refine s_aload_n (x := 98) dX12_gorge_297 rfl ?_
  refine s_aload_n (x := 98) dX12_gorge_298 rfl ?_
  refine s_getFd (c := 98) (d := 110) dX12_gorge_299 lX12_50 e98 (Or.inl rfl) (by decide) (by decide) ?_
  refine s_aload_n (x := 98) dX12_gorge_302 rfl ?_
  refine s_getFd (c := 98) (d := 101) dX12_gorge_303 lX12_20 e98 (Or.inl rfl) (by decide) (by decide) ?_
  exact s_callV (as := [zR 110, zR 101]) (st := []) (o := 98) dX12_gorge_306 kX12_285 rfl ⟨12, 87, TX12, e98, rfl, by decide⟩ rfl rfl (Nat.le_of_ble_eq_true rfl) hS (show fr - 1 + 1 ≤ fr by omega) (Nat.zero_le _) (Nat.zero_le _) (fun v n' h' hP _ => by obtain ⟨e, rfl, hR⟩ := hP; cases e; exact kk h' hR) (fun E n' h' _ z => (rV_nt _ _ _ z).elim)
theorem bX12_gorge_309 {fr M1 M2 b1 b2 : Nat} {Q : RS → Nat → AH → Prop} {h : AH} {x1 x2 : AV} {R : AH → Prop}   (hS : Sp mX12_copies true (fr - 1) 0 0 [zR 98, zR 111, zR 102] 137 h (rV R)) (hf : 1 ≤ fr := by omega) (kk : ∀ h' : AH, R h' → Wp mX12_gorge (kR fr M1 M2) Q (b1, b2) 321 [zR 98, none, none] [] 137 h') : Wp mX12_gorge (kR fr M1 M2) Q (b1, b2) 309 [zR 98, x1, x2] [] 137 h := by
  refine s_fgt (fgt_c (fgt_n _ (fgt_n _ fgt_0))) ?_
  refine s_aload_n (x := 98) dX12_gorge_309 rfl ?_
  refine s_aload_n (x := 98) dX12_gorge_310 rfl ?_
  refine s_getFd (c := 98) (d := 111) dX12_gorge_311 lX12_53 e98 (Or.inl rfl) (by decide) (by decide) ?_
  refine s_aload_n (x := 98) dX12_gorge_314 rfl ?_
  refine s_getFd (c := 98) (d := 102) dX12_gorge_315 lX12_23 e98 (Or.inl rfl) (by decide) (by decide) ?_
  exact s_callV (as := [zR 111, zR 102]) (st := []) (o := 98) dX12_gorge_318 kX12_285 rfl ⟨12, 87, TX12, e98, rfl, by decide⟩ rfl rfl (Nat.le_of_ble_eq_true rfl) hS (show fr - 1 + 1 ≤ fr by omega) (Nat.zero_le _) (Nat.zero_le _) (fun v n' h' hP _ => by obtain ⟨e, rfl, hR⟩ := hP; cases e; exact kk h' hR) (fun E n' h' _ z => (rV_nt _ _ _ z).elim)
theorem bX12_gorge_321 {fr M1 M2 b1 b2 : Nat} {Q : RS → Nat → AH → Prop} {h : AH} {x1 x2 : AV} {R : AH → Prop}   (hS : Sp mX12_copies true (fr - 1) 0 0 [zR 98, zR 112, zR 103] 137 h (rV R)) (hf : 1 ≤ fr := by omega) (kk : ∀ h' : AH, R h' → Wp mX12_gorge (kR fr M1 M2) Q (b1, b2) 333 [zR 98, none, none] [] 137 h') : Wp mX12_gorge (kR fr M1 M2) Q (b1, b2) 321 [zR 98, x1, x2] [] 137 h := by
  refine s_fgt (fgt_c (fgt_n _ (fgt_n _ fgt_0))) ?_
  refine s_aload_n (x := 98) dX12_gorge_321 rfl ?_
  refine s_aload_n (x := 98) dX12_gorge_322 rfl ?_
  refine s_getFd (c := 98) (d := 112) dX12_gorge_323 lX12_56 e98 (Or.inl rfl) (by decide) (by decide) ?_
  refine s_aload_n (x := 98) dX12_gorge_326 rfl ?_
  refine s_getFd (c := 98) (d := 103) dX12_gorge_327 lX12_26 e98 (Or.inl rfl) (by decide) (by decide) ?_
  exact s_callV (as := [zR 112, zR 103]) (st := []) (o := 98) dX12_gorge_330 kX12_285 rfl ⟨12, 87, TX12, e98, rfl, by decide⟩ rfl rfl (Nat.le_of_ble_eq_true rfl) hS (show fr - 1 + 1 ≤ fr by omega) (Nat.zero_le _) (Nat.zero_le _) (fun v n' h' hP _ => by obtain ⟨e, rfl, hR⟩ := hP; cases e; exact kk h' hR) (fun E n' h' _ z => (rV_nt _ _ _ z).elim)
theorem bX12_gorge_333 {fr M1 M2 b1 b2 : Nat} {Q : RS → Nat → AH → Prop} {h : AH} {x1 x2 : AV} {R : AH → Prop}   (hS : Sp mX12_copies true (fr - 1) 0 0 [zR 98, zR 113, zR 104] 137 h (rV R)) (hf : 1 ≤ fr := by omega) (kk : ∀ h' : AH, R h' → Wp mX12_gorge (kR fr M1 M2) Q (b1, b2) 345 [zR 98, none, none] [] 137 h') : Wp mX12_gorge (kR fr M1 M2) Q (b1, b2) 333 [zR 98, x1, x2] [] 137 h := by
  refine s_fgt (fgt_c (fgt_n _ (fgt_n _ fgt_0))) ?_
  refine s_aload_n (x := 98) dX12_gorge_333 rfl ?_
  refine s_aload_n (x := 98) dX12_gorge_334 rfl ?_
  refine s_getFd (c := 98) (d := 113) dX12_gorge_335 lX12_59 e98 (Or.inl rfl) (by decide) (by decide) ?_
  refine s_aload_n (x := 98) dX12_gorge_338 rfl ?_
  refine s_getFd (c := 98) (d := 104) dX12_gorge_339 lX12_29 e98 (Or.inl rfl) (by decide) (by decide) ?_
  exact s_callV (as := [zR 113, zR 104]) (st := []) (o := 98) dX12_gorge_342 kX12_285 rfl ⟨12, 87, TX12, e98, rfl, by decide⟩ rfl rfl (Nat.le_of_ble_eq_true rfl) hS (show fr - 1 + 1 ≤ fr by omega) (Nat.zero_le _) (Nat.zero_le _) (fun v n' h' hP _ => by obtain ⟨e, rfl, hR⟩ := hP; cases e; exact kk h' hR) (fun E n' h' _ z => (rV_nt _ _ _ z).elim)
theorem bX12_gorge_345 {fr M1 M2 b1 b2 : Nat} {Q : RS → Nat → AH → Prop} {h : AH} {x1 x2 : AV} {R : AH → Prop}   (hS : Sp mX12_copies true (fr - 1) 0 0 [zR 98, zR 114, zR 105] 137 h (rV R)) (hf : 1 ≤ fr := by omega) (kk : ∀ h' : AH, R h' → Wp mX12_gorge (kR fr M1 M2) Q (b1, b2) 357 [zR 98, none, none] [] 137 h') : Wp mX12_gorge (kR fr M1 M2) Q (b1, b2) 345 [zR 98, x1, x2] [] 137 h := by
  refine s_fgt (fgt_c (fgt_n _ (fgt_n _ fgt_0))) ?_
  refine s_aload_n (x := 98) dX12_gorge_345 rfl ?_
  refine s_aload_n (x := 98) dX12_gorge_346 rfl ?_
  refine s_getFd (c := 98) (d := 114) dX12_gorge_347 lX12_62 e98 (Or.inl rfl) (by decide) (by decide) ?_
  refine s_aload_n (x := 98) dX12_gorge_350 rfl ?_
  refine s_getFd (c := 98) (d := 105) dX12_gorge_351 lX12_32 e98 (Or.inl rfl) (by decide) (by decide) ?_
  exact s_callV (as := [zR 114, zR 105]) (st := []) (o := 98) dX12_gorge_354 kX12_285 rfl ⟨12, 87, TX12, e98, rfl, by decide⟩ rfl rfl (Nat.le_of_ble_eq_true rfl) hS (show fr - 1 + 1 ≤ fr by omega) (Nat.zero_le _) (Nat.zero_le _) (fun v n' h' hP _ => by obtain ⟨e, rfl, hR⟩ := hP; cases e; exact kk h' hR) (fun E n' h' _ z => (rV_nt _ _ _ z).elim)
theorem bX12_gorge_357 {fr M1 M2 b1 b2 : Nat} {Q : RS → Nat → AH → Prop} {h : AH} {x1 x2 : AV}   (kk : Wp mX12_gorge (kR fr M1 M2) Q (b1, b2) 374 [zR 98, none, zI 0] [] 137 (up (up (up h 98 50 0) 98 68 0) 98 66 0)) : Wp mX12_gorge (kR fr M1 M2) Q (b1, b2) 357 [zR 98, x1, x2] [] 137 h := by
  refine s_fgt (fgt_c (fgt_n _ (fgt_n _ fgt_0))) ?_
  refine s_aload_n (x := 98) dX12_gorge_357 rfl ?_
  refine s_iconst dX12_gorge_358 ?_
  refine s_put (c := 98) dX12_gorge_359 lX12_289 e98 ?_
  refine s_aload_n (x := 98) dX12_gorge_362 rfl ?_
  refine s_iconst dX12_gorge_363 ?_
  refine s_put (c := 98) dX12_gorge_364 lX12_292 e98 ?_
  refine s_aload_n (x := 98) dX12_gorge_367 rfl ?_
  refine s_iconst dX12_gorge_368 ?_
  refine s_put (c := 98) dX12_gorge_369 lX12_295 e98 ?_
  refine s_iconst dX12_gorge_372 ?_
  refine s_istore_n dX12_gorge_373 rfl (by decide) ?_
  exact kk
theorem bX12_gorge_374 {fr M1 M2 b1 b2 : Nat} {Q : RS → Nat → AH → Prop} {h : AH} {l2 : Int} {x1 : AV}  (r1 : -2147483648 ≤ l2 ∧ l2 < 2147483648 := by omega) (kt : 16 ≤ l2 → Wp mX12_gorge (kR fr M1 M2) Q (b1, b2) 393 [zR 98, none, zI l2] [] 137 h) (kf : l2 < 16 → Wp mX12_gorge (kR fr M1 M2) Q (b1, b2) 380 [zR 98, none, zI l2] [] 137 h) : Wp mX12_gorge (kR fr M1 M2) Q (b1, b2) 374 [zR 98, x1, zI l2] [] 137 h := by
  refine s_fgt (fgt_c (fgt_n _ (fgt_c fgt_0))) ?_
  refine s_iload_n (x := l2) dX12_gorge_374 rfl ?_
  refine s_bipush dX12_gorge_375 (by decide) ?_
  exact s_icmp_ge (tgt := 393) dX12_gorge_377 (by decide) r1 ⟨by decide, by decide⟩ kt kf
theorem bX12_gorge_380 {fr M1 M2 b1 b2 : Nat} {Q : RS → Nat → AH → Prop} {h : AH} {l2 : Int} {x1 : AV}  (r1 : 0 ≤ l2 ∧ l2 < 16 := by omega) (kk : Wp mX12_gorge (kR fr M1 M2) Q (b1, b2) 374 [zR 98, none, zI (l2 + 1)] [] 137 (up h 123 l2 (-1))) : Wp mX12_gorge (kR fr M1 M2) Q (b1, b2) 380 [zR 98, x1, zI l2] [] 137 h := by
  refine s_fgt (fgt_c (fgt_n _ (fgt_c fgt_0))) ?_
  refine s_aload_n (x := 98) dX12_gorge_380 rfl ?_
  refine s_getFd (c := 98) (d := 123) dX12_gorge_381 lX12_92 e98 (Or.inl rfl) (by decide) (by decide) ?_
  refine s_iload_n (x := l2) dX12_gorge_384 rfl ?_
  refine s_iconst dX12_gorge_385 ?_
  refine s_iast (c := 123) (i := l2) dX12_gorge_386 e123 r1.1 r1.2 ?_
  refine s_iinc (x := l2) dX12_gorge_387 rfl rfl (by decide) ?_
  exact s_goto (tgt := 374) dX12_gorge_390 (by decide) kk
theorem bX12_gorge_393 {fr M1 M2 b1 b2 : Nat} {Q : RS → Nat → AH → Prop} {h : AH} {x1 x2 : AV}   (kk : Wp mX12_gorge (kR fr M1 M2) Q (b1, b2) 395 [zR 98, none, zI 0] [] 137 h) : Wp mX12_gorge (kR fr M1 M2) Q (b1, b2) 393 [zR 98, x1, x2] [] 137 h := by
  refine s_fgt (fgt_c (fgt_n _ (fgt_n _ fgt_0))) ?_
  refine s_iconst dX12_gorge_393 ?_
  refine s_istore_n dX12_gorge_394 rfl (by decide) ?_
  exact kk
theorem bX12_gorge_395 {fr M1 M2 b1 b2 : Nat} {Q : RS → Nat → AH → Prop} {h : AH} {l2 : Int} {x1 : AV}  (r1 : -2147483648 ≤ l2 ∧ l2 < 2147483648 := by omega) (kt : 6 ≤ l2 → Wp mX12_gorge (kR fr M1 M2) Q (b1, b2) 414 [zR 98, none, zI l2] [] 137 h) (kf : l2 < 6 → Wp mX12_gorge (kR fr M1 M2) Q (b1, b2) 401 [zR 98, none, zI l2] [] 137 h) : Wp mX12_gorge (kR fr M1 M2) Q (b1, b2) 395 [zR 98, x1, zI l2] [] 137 h := by
  refine s_fgt (fgt_c (fgt_n _ (fgt_c fgt_0))) ?_
  refine s_iload_n (x := l2) dX12_gorge_395 rfl ?_
  refine s_bipush dX12_gorge_396 (by decide) ?_
  exact s_icmp_ge (tgt := 414) dX12_gorge_398 (by decide) r1 ⟨by decide, by decide⟩ kt kf
theorem bX12_gorge_401 {fr M1 M2 b1 b2 : Nat} {Q : RS → Nat → AH → Prop} {h : AH} {l2 : Int} {x1 : AV}  (r1 : 0 ≤ l2 ∧ l2 < 6 := by omega) (kk : Wp mX12_gorge (kR fr M1 M2) Q (b1, b2) 395 [zR 98, none, zI (l2 + 1)] [] 137 (up h 128 l2 0)) : Wp mX12_gorge (kR fr M1 M2) Q (b1, b2) 401 [zR 98, x1, zI l2] [] 137 h := by
  refine s_fgt (fgt_c (fgt_n _ (fgt_c fgt_0))) ?_
  refine s_aload_n (x := 98) dX12_gorge_401 rfl ?_
  refine s_getFd (c := 98) (d := 128) dX12_gorge_402 lX12_108 e98 (Or.inl rfl) (by decide) (by decide) ?_
  refine s_iload_n (x := l2) dX12_gorge_405 rfl ?_
  refine s_iconst dX12_gorge_406 ?_
  refine s_iast (c := 128) (i := l2) dX12_gorge_407 e128 r1.1 r1.2 ?_
  refine s_iinc (x := l2) dX12_gorge_408 rfl rfl (by decide) ?_
  exact s_goto (tgt := 395) dX12_gorge_411 (by decide) kk
theorem bX12_gorge_414 {fr M1 M2 b1 b2 : Nat} {Q : RS → Nat → AH → Prop} {h : AH} {x1 x2 : AV}   (hq : Q (.inl (some (zI 0))) 137 (up h 98 78 0)) : Wp mX12_gorge (kR fr M1 M2) Q (b1, b2) 414 [zR 98, x1, x2] [] 137 h := by
  refine s_fgt (fgt_c (fgt_n _ (fgt_n _ fgt_0))) ?_
  refine s_aload_n (x := 98) dX12_gorge_414 rfl ?_
  refine s_iconst dX12_gorge_415 ?_
  refine s_putZ (c := 98) dX12_gorge_416 lX12_298 e98 (by decide) ?_
  refine s_iconst dX12_gorge_419 ?_
  exact s_ireturn dX12_gorge_420 ⟨.int, rfl, rfl⟩ hq (fun z => by cases z)
theorem dX12_fault_0 : decode mX12_fault.cd 0 = .ok (.aload_n 0, 1) := by decide +kernel
theorem dX12_fault_1 : decode mX12_fault.cd 1 = .ok (.iconst 0, 1) := by decide +kernel
theorem dX12_fault_2 : decode mX12_fault.cd 2 = .ok (.putfield 136, 3) := by decide +kernel
theorem dX12_fault_5 : decode mX12_fault.cd 5 = .ok (.aload_n 0, 1) := by decide +kernel
theorem dX12_fault_6 : decode mX12_fault.cd 6 = .ok (.getfield 38, 3) := by decide +kernel
theorem dX12_fault_9 : decode mX12_fault.cd 9 = .ok (.ireturn, 1) := by decide +kernel
theorem bX12_fault_0 {fr M1 M2 b1 b2 : Nat} {Q : RS → Nat → AH → Prop} {h : AH}   (hq : Q (.inl (some (zI (h 98 18)))) 137 (up h 98 0 0)) : Wp mX12_fault (kR fr M1 M2) Q (b1, b2) 0 [zR 98] [] 137 h := by
  refine s_aload_n (x := 98) dX12_fault_0 rfl ?_
  refine s_iconst dX12_fault_1 ?_
  refine s_put (c := 98) dX12_fault_2 lX12_136 e98 ?_
  refine s_aload_n (x := 98) dX12_fault_5 rfl ?_
  refine s_get (c := 98) dX12_fault_6 lX12_38 e98 (by decide) ?_
  exact s_ireturn dX12_fault_9 ⟨.int, rfl, rfl⟩ hq (fun z => by cases z)
theorem dX12_count_0 : decode mX12_count.cd 0 = .ok (.aload_n 0, 1) := by decide +kernel
theorem dX12_count_1 : decode mX12_count.cd 1 = .ok (.iconst 0, 1) := by decide +kernel
theorem dX12_count_2 : decode mX12_count.cd 2 = .ok (.putfield 136, 3) := by decide +kernel
theorem dX12_count_5 : decode mX12_count.cd 5 = .ok (.aload_n 0, 1) := by decide +kernel
theorem dX12_count_6 : decode mX12_count.cd 6 = .ok (.iload_n 1, 1) := by decide +kernel
theorem dX12_count_7 : decode mX12_count.cd 7 = .ok (.iconst 0, 1) := by decide +kernel
theorem dX12_count_8 : decode mX12_count.cd 8 = .ok (.bipush 10, 2) := by decide +kernel
theorem dX12_count_10 : decode mX12_count.cd 10 = .ok (.invokestatic 301, 3) := by decide +kernel
theorem dX12_count_13 : decode mX12_count.cd 13 = .ok (.iconst 1, 1) := by decide +kernel
theorem dX12_count_14 : decode mX12_count.cd 14 = .ok (.invokevirtual 260, 3) := by decide +kernel
theorem dX12_count_17 : decode mX12_count.cd 17 = .ok (.ifCond .ne 5, 3) := by decide +kernel
theorem dX12_count_20 : decode mX12_count.cd 20 = .ok (.iconst 0, 1) := by decide +kernel
theorem dX12_count_21 : decode mX12_count.cd 21 = .ok (.ireturn, 1) := by decide +kernel
theorem dX12_count_22 : decode mX12_count.cd 22 = .ok (.iload_n 1, 1) := by decide +kernel
theorem dX12_count_23 : decode mX12_count.cd 23 = .ok (.tableswitch 97 0 10 #[57, 62, 67, 72, 77, 82, 87, 97, 97, 97, 92], 57) := by decide +kernel
theorem dX12_count_80 : decode mX12_count.cd 80 = .ok (.aload_n 0, 1) := by decide +kernel
theorem dX12_count_81 : decode mX12_count.cd 81 = .ok (.getfield 267, 3) := by decide +kernel
theorem dX12_count_84 : decode mX12_count.cd 84 = .ok (.ireturn, 1) := by decide +kernel
theorem dX12_count_85 : decode mX12_count.cd 85 = .ok (.aload_n 0, 1) := by decide +kernel
theorem dX12_count_86 : decode mX12_count.cd 86 = .ok (.getfield 270, 3) := by decide +kernel
theorem dX12_count_89 : decode mX12_count.cd 89 = .ok (.ireturn, 1) := by decide +kernel
theorem dX12_count_90 : decode mX12_count.cd 90 = .ok (.aload_n 0, 1) := by decide +kernel
theorem dX12_count_91 : decode mX12_count.cd 91 = .ok (.getfield 273, 3) := by decide +kernel
theorem dX12_count_94 : decode mX12_count.cd 94 = .ok (.ireturn, 1) := by decide +kernel
theorem dX12_count_95 : decode mX12_count.cd 95 = .ok (.aload_n 0, 1) := by decide +kernel
theorem dX12_count_96 : decode mX12_count.cd 96 = .ok (.getfield 276, 3) := by decide +kernel
theorem dX12_count_99 : decode mX12_count.cd 99 = .ok (.ireturn, 1) := by decide +kernel
theorem dX12_count_100 : decode mX12_count.cd 100 = .ok (.aload_n 0, 1) := by decide +kernel
theorem dX12_count_101 : decode mX12_count.cd 101 = .ok (.getfield 289, 3) := by decide +kernel
theorem dX12_count_104 : decode mX12_count.cd 104 = .ok (.ireturn, 1) := by decide +kernel
theorem dX12_count_105 : decode mX12_count.cd 105 = .ok (.aload_n 0, 1) := by decide +kernel
theorem dX12_count_106 : decode mX12_count.cd 106 = .ok (.getfield 292, 3) := by decide +kernel
theorem dX12_count_109 : decode mX12_count.cd 109 = .ok (.ireturn, 1) := by decide +kernel
theorem dX12_count_110 : decode mX12_count.cd 110 = .ok (.aload_n 0, 1) := by decide +kernel
theorem dX12_count_111 : decode mX12_count.cd 111 = .ok (.getfield 139, 3) := by decide +kernel
theorem dX12_count_114 : decode mX12_count.cd 114 = .ok (.ireturn, 1) := by decide +kernel
theorem dX12_count_115 : decode mX12_count.cd 115 = .ok (.aload_n 0, 1) := by decide +kernel
theorem dX12_count_116 : decode mX12_count.cd 116 = .ok (.invokevirtual 305, 3) := by decide +kernel
theorem dX12_count_119 : decode mX12_count.cd 119 = .ok (.ireturn, 1) := by decide +kernel
theorem dX12_count_120 : decode mX12_count.cd 120 = .ok (.aload_n 0, 1) := by decide +kernel
theorem dX12_count_121 : decode mX12_count.cd 121 = .ok (.getfield 41, 3) := by decide +kernel
theorem dX12_count_124 : decode mX12_count.cd 124 = .ok (.iload_n 1, 1) := by decide +kernel
theorem dX12_count_125 : decode mX12_count.cd 125 = .ok (.bipush 7, 2) := by decide +kernel
theorem dX12_count_127 : decode mX12_count.cd 127 = .ok (.isub, 1) := by decide +kernel
theorem dX12_count_128 : decode mX12_count.cd 128 = .ok (.iaload, 1) := by decide +kernel
theorem dX12_count_129 : decode mX12_count.cd 129 = .ok (.ireturn, 1) := by decide +kernel
theorem bX12_count_0 {fr M1 M2 b1 b2 : Nat} {Q : RS → Nat → AH → Prop} {h : AH} {l1 : Int} {R : Int → AH → Prop}   (hS : Sp mX12_within true (fr - 1) 0 0 [zI l1, zI 0, zI 10] 137 (up h 98 0 0) (rI R)) (hf : 1 ≤ fr := by omega) (kk : ∀ (x : Int) (h' : AH), R x h' → Wp mX12_count (kR fr M1 M2) Q (b1, b2) 13 [zR 98, zI l1] [zI x, zR 98] 137 h') : Wp mX12_count (kR fr M1 M2) Q (b1, b2) 0 [zR 98, zI l1] [] 137 h := by
  refine s_aload_n (x := 98) dX12_count_0 rfl ?_
  refine s_iconst dX12_count_1 ?_
  refine s_put (c := 98) dX12_count_2 lX12_136 e98 ?_
  refine s_aload_n (x := 98) dX12_count_5 rfl ?_
  refine s_iload_n (x := l1) dX12_count_6 rfl ?_
  refine s_iconst dX12_count_7 ?_
  refine s_bipush dX12_count_8 (by decide) ?_
  exact s_callS (as := [zI l1, zI 0, zI 10]) (st := [zR 98]) dX12_count_10 kX12_301 rfl rfl (Nat.le_of_ble_eq_true rfl) hS (show fr - 1 + 1 ≤ fr by omega) (Nat.zero_le _) (Nat.zero_le _) (fun v n' h' hP _ => by obtain ⟨x, e, rfl, hR⟩ := hP; cases e; exact kk x h' hR) (fun E n' h' _ z => (rI_nt _ _ _ z).elim)
theorem bX12_count_13 {fr M1 M2 b1 b2 : Nat} {Q : RS → Nat → AH → Prop} {h : AH} {l1 s0 : Int} {R : Int → AH → Prop}   (hS : Sp mX12_right true (fr - 1) 0 0 [zR 98, zI s0, zI 1] 137 h (rI R)) (hf : 1 ≤ fr := by omega) (kk : ∀ (x : Int) (h' : AH), R x h' → Wp mX12_count (kR fr M1 M2) Q (b1, b2) 17 [zR 98, zI l1] [zI x] 137 h') : Wp mX12_count (kR fr M1 M2) Q (b1, b2) 13 [zR 98, zI l1] [zI s0, zR 98] 137 h := by
  refine s_iconst dX12_count_13 ?_
  exact s_callV (as := [zI s0, zI 1]) (st := []) (o := 98) dX12_count_14 kX12_260 rfl ⟨12, 87, TX12, e98, rfl, by decide⟩ rfl rfl (Nat.le_of_ble_eq_true rfl) hS (show fr - 1 + 1 ≤ fr by omega) (Nat.zero_le _) (Nat.zero_le _) (fun v n' h' hP _ => by obtain ⟨x, e, rfl, hR⟩ := hP; cases e; exact kk x h' hR) (fun E n' h' _ z => (rI_nt _ _ _ z).elim)
theorem bX12_count_17 {fr M1 M2 b1 b2 : Nat} {Q : RS → Nat → AH → Prop} {h : AH} {l1 s0 : Int}  (r1 : -2147483648 ≤ s0 ∧ s0 < 2147483648 := by omega) (kt : ¬ s0 = 0 → Wp mX12_count (kR fr M1 M2) Q (b1, b2) 22 [zR 98, zI l1] [] 137 h) (kf : s0 = 0 → Wp mX12_count (kR fr M1 M2) Q (b1, b2) 20 [zR 98, zI l1] [] 137 h) : Wp mX12_count (kR fr M1 M2) Q (b1, b2) 17 [zR 98, zI l1] [zI s0] 137 h := by
  exact s_if_ne (tgt := 22) dX12_count_17 (by decide) r1 kt kf
theorem bX12_count_20 {fr M1 M2 b1 b2 : Nat} {Q : RS → Nat → AH → Prop} {h : AH} {x0 x1 : AV}   (hq : Q (.inl (some (zI 0))) 137 h) : Wp mX12_count (kR fr M1 M2) Q (b1, b2) 20 [x0, x1] [] 137 h := by
  refine s_fgt (fgt_n _ (fgt_n _ fgt_0)) ?_
  refine s_iconst dX12_count_20 ?_
  exact s_ireturn dX12_count_21 ⟨.int, rfl, rfl⟩ hq (fun z => by cases z)
theorem bX12_count_22 {fr M1 M2 b1 b2 : Nat} {Q : RS → Nat → AH → Prop} {h : AH} {l1 : Int}  (r1 : -2147483648 ≤ l1 ∧ l1 < 2147483648 := by omega) (k0 : l1 = 0 → Wp mX12_count (kR fr M1 M2) Q (b1, b2) 80 [zR 98, zI l1] [] 137 h) (k1 : l1 = 1 → Wp mX12_count (kR fr M1 M2) Q (b1, b2) 85 [zR 98, zI l1] [] 137 h) (k2 : l1 = 2 → Wp mX12_count (kR fr M1 M2) Q (b1, b2) 90 [zR 98, zI l1] [] 137 h) (k3 : l1 = 3 → Wp mX12_count (kR fr M1 M2) Q (b1, b2) 95 [zR 98, zI l1] [] 137 h) (k4 : l1 = 4 → Wp mX12_count (kR fr M1 M2) Q (b1, b2) 100 [zR 98, zI l1] [] 137 h) (k5 : l1 = 5 → Wp mX12_count (kR fr M1 M2) Q (b1, b2) 105 [zR 98, zI l1] [] 137 h) (k6 : l1 = 6 → Wp mX12_count (kR fr M1 M2) Q (b1, b2) 110 [zR 98, zI l1] [] 137 h) (k7 : l1 = 7 → Wp mX12_count (kR fr M1 M2) Q (b1, b2) 120 [zR 98, zI l1] [] 137 h) (k8 : l1 = 8 → Wp mX12_count (kR fr M1 M2) Q (b1, b2) 120 [zR 98, zI l1] [] 137 h) (k9 : l1 = 9 → Wp mX12_count (kR fr M1 M2) Q (b1, b2) 120 [zR 98, zI l1] [] 137 h) (k10 : l1 = 10 → Wp mX12_count (kR fr M1 M2) Q (b1, b2) 115 [zR 98, zI l1] [] 137 h) (kd : l1 < 0 ∨ 10 < l1 → Wp mX12_count (kR fr M1 M2) Q (b1, b2) 120 [zR 98, zI l1] [] 137 h) : Wp mX12_count (kR fr M1 M2) Q (b1, b2) 22 [zR 98, zI l1] [] 137 h := by
  refine s_iload_n (x := l1) dX12_count_22 rfl ?_
  rcases (show (l1 < 0 ∨ 10 < l1) ∨ l1 = 0 ∨ l1 = 1 ∨ l1 = 2 ∨ l1 = 3 ∨ l1 = 4 ∨ l1 = 5 ∨ l1 = 6 ∨ l1 = 7 ∨ l1 = 8 ∨ l1 = 9 ∨ l1 = 10 by omega) with z | z | z | z | z | z | z | z | z | z | z | z
  · exact s_tableOut (tgt := 120) dX12_count_23 r1 z (by decide) (kd z)
  · exact s_tableIn (tgt := 80) (off := 57) dX12_count_23 r1 (by omega) (by omega) (by rw [z]; rfl) (by decide) (k0 z)
  · exact s_tableIn (tgt := 85) (off := 62) dX12_count_23 r1 (by omega) (by omega) (by rw [z]; rfl) (by decide) (k1 z)
  · exact s_tableIn (tgt := 90) (off := 67) dX12_count_23 r1 (by omega) (by omega) (by rw [z]; rfl) (by decide) (k2 z)
  · exact s_tableIn (tgt := 95) (off := 72) dX12_count_23 r1 (by omega) (by omega) (by rw [z]; rfl) (by decide) (k3 z)
  · exact s_tableIn (tgt := 100) (off := 77) dX12_count_23 r1 (by omega) (by omega) (by rw [z]; rfl) (by decide) (k4 z)
  · exact s_tableIn (tgt := 105) (off := 82) dX12_count_23 r1 (by omega) (by omega) (by rw [z]; rfl) (by decide) (k5 z)
  · exact s_tableIn (tgt := 110) (off := 87) dX12_count_23 r1 (by omega) (by omega) (by rw [z]; rfl) (by decide) (k6 z)
  · exact s_tableIn (tgt := 120) (off := 97) dX12_count_23 r1 (by omega) (by omega) (by rw [z]; rfl) (by decide) (k7 z)
  · exact s_tableIn (tgt := 120) (off := 97) dX12_count_23 r1 (by omega) (by omega) (by rw [z]; rfl) (by decide) (k8 z)
  · exact s_tableIn (tgt := 120) (off := 97) dX12_count_23 r1 (by omega) (by omega) (by rw [z]; rfl) (by decide) (k9 z)
  · exact s_tableIn (tgt := 115) (off := 92) dX12_count_23 r1 (by omega) (by omega) (by rw [z]; rfl) (by decide) (k10 z)
theorem bX12_count_80 {fr M1 M2 b1 b2 : Nat} {Q : RS → Nat → AH → Prop} {h : AH} {x1 : AV}   (hq : Q (.inl (some (zI (h 98 1)))) 137 h) : Wp mX12_count (kR fr M1 M2) Q (b1, b2) 80 [zR 98, x1] [] 137 h := by
  refine s_fgt (fgt_c (fgt_n _ fgt_0)) ?_
  refine s_aload_n (x := 98) dX12_count_80 rfl ?_
  refine s_get (c := 98) dX12_count_81 lX12_267 e98 (by decide) ?_
  exact s_ireturn dX12_count_84 ⟨.int, rfl, rfl⟩ hq (fun z => by cases z)
theorem bX12_count_85 {fr M1 M2 b1 b2 : Nat} {Q : RS → Nat → AH → Prop} {h : AH} {x1 : AV}   (hq : Q (.inl (some (zI (h 98 2)))) 137 h) : Wp mX12_count (kR fr M1 M2) Q (b1, b2) 85 [zR 98, x1] [] 137 h := by
  refine s_fgt (fgt_c (fgt_n _ fgt_0)) ?_
  refine s_aload_n (x := 98) dX12_count_85 rfl ?_
  refine s_get (c := 98) dX12_count_86 lX12_270 e98 (by decide) ?_
  exact s_ireturn dX12_count_89 ⟨.int, rfl, rfl⟩ hq (fun z => by cases z)
theorem bX12_count_90 {fr M1 M2 b1 b2 : Nat} {Q : RS → Nat → AH → Prop} {h : AH} {x1 : AV}   (hq : Q (.inl (some (zI (h 98 3)))) 137 h) : Wp mX12_count (kR fr M1 M2) Q (b1, b2) 90 [zR 98, x1] [] 137 h := by
  refine s_fgt (fgt_c (fgt_n _ fgt_0)) ?_
  refine s_aload_n (x := 98) dX12_count_90 rfl ?_
  refine s_get (c := 98) dX12_count_91 lX12_273 e98 (by decide) ?_
  exact s_ireturn dX12_count_94 ⟨.int, rfl, rfl⟩ hq (fun z => by cases z)
theorem bX12_count_95 {fr M1 M2 b1 b2 : Nat} {Q : RS → Nat → AH → Prop} {h : AH} {x1 : AV}   (hq : Q (.inl (some (zI (h 98 4)))) 137 h) : Wp mX12_count (kR fr M1 M2) Q (b1, b2) 95 [zR 98, x1] [] 137 h := by
  refine s_fgt (fgt_c (fgt_n _ fgt_0)) ?_
  refine s_aload_n (x := 98) dX12_count_95 rfl ?_
  refine s_get (c := 98) dX12_count_96 lX12_276 e98 (by decide) ?_
  exact s_ireturn dX12_count_99 ⟨.int, rfl, rfl⟩ hq (fun z => by cases z)
theorem bX12_count_100 {fr M1 M2 b1 b2 : Nat} {Q : RS → Nat → AH → Prop} {h : AH} {x1 : AV}   (hq : Q (.inl (some (zI (h 98 50)))) 137 h) : Wp mX12_count (kR fr M1 M2) Q (b1, b2) 100 [zR 98, x1] [] 137 h := by
  refine s_fgt (fgt_c (fgt_n _ fgt_0)) ?_
  refine s_aload_n (x := 98) dX12_count_100 rfl ?_
  refine s_get (c := 98) dX12_count_101 lX12_289 e98 (by decide) ?_
  exact s_ireturn dX12_count_104 ⟨.int, rfl, rfl⟩ hq (fun z => by cases z)
theorem bX12_count_105 {fr M1 M2 b1 b2 : Nat} {Q : RS → Nat → AH → Prop} {h : AH} {x1 : AV}   (hq : Q (.inl (some (zI (h 98 68)))) 137 h) : Wp mX12_count (kR fr M1 M2) Q (b1, b2) 105 [zR 98, x1] [] 137 h := by
  refine s_fgt (fgt_c (fgt_n _ fgt_0)) ?_
  refine s_aload_n (x := 98) dX12_count_105 rfl ?_
  refine s_get (c := 98) dX12_count_106 lX12_292 e98 (by decide) ?_
  exact s_ireturn dX12_count_109 ⟨.int, rfl, rfl⟩ hq (fun z => by cases z)
theorem bX12_count_110 {fr M1 M2 b1 b2 : Nat} {Q : RS → Nat → AH → Prop} {h : AH} {x1 : AV}   (hq : Q (.inl (some (zI (h 98 16)))) 137 h) : Wp mX12_count (kR fr M1 M2) Q (b1, b2) 110 [zR 98, x1] [] 137 h := by
  refine s_fgt (fgt_c (fgt_n _ fgt_0)) ?_
  refine s_aload_n (x := 98) dX12_count_110 rfl ?_
  refine s_get (c := 98) dX12_count_111 lX12_139 e98 (by decide) ?_
  exact s_ireturn dX12_count_114 ⟨.int, rfl, rfl⟩ hq (fun z => by cases z)
theorem bX12_count_115 {fr M1 M2 b1 b2 : Nat} {Q : RS → Nat → AH → Prop} {h : AH} {x1 : AV} {R : Int → AH → Prop}   (hS : Sp mX12_allLines true (fr - 1) 0 0 [zR 98] 137 h (rI R)) (hf : 1 ≤ fr := by omega) (kk : ∀ (x : Int) (h' : AH), R x h' → Wp mX12_count (kR fr M1 M2) Q (b1, b2) 119 [zR 98, none] [zI x] 137 h') : Wp mX12_count (kR fr M1 M2) Q (b1, b2) 115 [zR 98, x1] [] 137 h := by
  refine s_fgt (fgt_c (fgt_n _ fgt_0)) ?_
  refine s_aload_n (x := 98) dX12_count_115 rfl ?_
  exact s_callV (as := []) (st := []) (o := 98) dX12_count_116 kX12_305 rfl ⟨12, 87, TX12, e98, rfl, by decide⟩ rfl rfl (Nat.le_of_ble_eq_true rfl) hS (show fr - 1 + 1 ≤ fr by omega) (Nat.zero_le _) (Nat.zero_le _) (fun v n' h' hP _ => by obtain ⟨x, e, rfl, hR⟩ := hP; cases e; exact kk x h' hR) (fun E n' h' _ z => (rI_nt _ _ _ z).elim)
theorem bX12_count_119 {fr M1 M2 b1 b2 : Nat} {Q : RS → Nat → AH → Prop} {h : AH} {s0 : Int} {x0 x1 : AV}   (hq : Q (.inl (some (zI s0))) 137 h) : Wp mX12_count (kR fr M1 M2) Q (b1, b2) 119 [x0, x1] [zI s0] 137 h := by
  refine s_fgt (fgt_n _ (fgt_n _ fgt_0)) ?_
  exact s_ireturn dX12_count_119 ⟨.int, rfl, rfl⟩ hq (fun z => by cases z)
theorem bX12_count_120 {fr M1 M2 b1 b2 : Nat} {Q : RS → Nat → AH → Prop} {h : AH} {l1 : Int}  (r1 : 0 ≤ l1 - 7 ∧ l1 - 7 < 3 := by omega) (hq : Q (.inl (some (zI (h 107 (l1 - 7))))) 137 h) : Wp mX12_count (kR fr M1 M2) Q (b1, b2) 120 [zR 98, zI l1] [] 137 h := by
  refine s_aload_n (x := 98) dX12_count_120 rfl ?_
  refine s_getFd (c := 98) (d := 107) dX12_count_121 lX12_41 e98 (Or.inl rfl) (by decide) (by decide) ?_
  refine s_iload_n (x := l1) dX12_count_124 rfl ?_
  refine s_bipush dX12_count_125 (by decide) ?_
  refine s_isub dX12_count_127 ?_
  refine s_iald (c := 107) (i := l1 - 7) dX12_count_128 e107 r1.1 r1.2 ?_
  exact s_ireturn dX12_count_129 ⟨.int, rfl, rfl⟩ hq (fun z => by cases z)
theorem dX12_wall_0 : decode mX12_wall.cd 0 = .ok (.aload_n 0, 1) := by decide +kernel
theorem dX12_wall_1 : decode mX12_wall.cd 1 = .ok (.iconst 0, 1) := by decide +kernel
theorem dX12_wall_2 : decode mX12_wall.cd 2 = .ok (.putfield 136, 3) := by decide +kernel
theorem dX12_wall_5 : decode mX12_wall.cd 5 = .ok (.aload_n 0, 1) := by decide +kernel
theorem dX12_wall_6 : decode mX12_wall.cd 6 = .ok (.iload_n 1, 1) := by decide +kernel
theorem dX12_wall_7 : decode mX12_wall.cd 7 = .ok (.ifCond .lt 24, 3) := by decide +kernel
theorem dX12_wall_10 : decode mX12_wall.cd 10 = .ok (.iload_n 1, 1) := by decide +kernel
theorem dX12_wall_11 : decode mX12_wall.cd 11 = .ok (.aload_n 0, 1) := by decide +kernel
theorem dX12_wall_12 : decode mX12_wall.cd 12 = .ok (.getfield 270, 3) := by decide +kernel
theorem dX12_wall_15 : decode mX12_wall.cd 15 = .ok (.if_icmp .ge 16, 3) := by decide +kernel
theorem dX12_wall_18 : decode mX12_wall.cd 18 = .ok (.iload_n 2, 1) := by decide +kernel
theorem dX12_wall_19 : decode mX12_wall.cd 19 = .ok (.iconst 0, 1) := by decide +kernel
theorem dX12_wall_20 : decode mX12_wall.cd 20 = .ok (.iconst 5, 1) := by decide +kernel
theorem dX12_wall_21 : decode mX12_wall.cd 21 = .ok (.invokestatic 301, 3) := by decide +kernel
theorem dX12_wall_24 : decode mX12_wall.cd 24 = .ok (.ifCond .eq 7, 3) := by decide +kernel
theorem dX12_wall_27 : decode mX12_wall.cd 27 = .ok (.iconst 1, 1) := by decide +kernel
theorem dX12_wall_28 : decode mX12_wall.cd 28 = .ok (.goto 4, 3) := by decide +kernel
theorem dX12_wall_31 : decode mX12_wall.cd 31 = .ok (.iconst 0, 1) := by decide +kernel
theorem dX12_wall_32 : decode mX12_wall.cd 32 = .ok (.iconst 1, 1) := by decide +kernel
theorem dX12_wall_33 : decode mX12_wall.cd 33 = .ok (.invokevirtual 260, 3) := by decide +kernel
theorem dX12_wall_36 : decode mX12_wall.cd 36 = .ok (.ifCond .eq 17, 3) := by decide +kernel
theorem dX12_wall_39 : decode mX12_wall.cd 39 = .ok (.aload_n 0, 1) := by decide +kernel
theorem dX12_wall_40 : decode mX12_wall.cd 40 = .ok (.getfield 17, 3) := by decide +kernel
theorem dX12_wall_43 : decode mX12_wall.cd 43 = .ok (.bipush 6, 2) := by decide +kernel
theorem dX12_wall_45 : decode mX12_wall.cd 45 = .ok (.iload_n 1, 1) := by decide +kernel
theorem dX12_wall_46 : decode mX12_wall.cd 46 = .ok (.imul, 1) := by decide +kernel
theorem dX12_wall_47 : decode mX12_wall.cd 47 = .ok (.iload_n 2, 1) := by decide +kernel
theorem dX12_wall_48 : decode mX12_wall.cd 48 = .ok (.iadd, 1) := by decide +kernel
theorem dX12_wall_49 : decode mX12_wall.cd 49 = .ok (.iaload, 1) := by decide +kernel
theorem dX12_wall_50 : decode mX12_wall.cd 50 = .ok (.goto 4, 3) := by decide +kernel
theorem dX12_wall_53 : decode mX12_wall.cd 53 = .ok (.iconst 0, 1) := by decide +kernel
theorem dX12_wall_54 : decode mX12_wall.cd 54 = .ok (.ireturn, 1) := by decide +kernel
theorem bX12_wall_0 {fr M1 M2 b1 b2 : Nat} {Q : RS → Nat → AH → Prop} {h : AH} {l1 l2 : Int}  (r1 : -2147483648 ≤ l1 ∧ l1 < 2147483648 := by omega) (kt : l1 < 0 → Wp mX12_wall (kR fr M1 M2) Q (b1, b2) 31 [zR 98, zI l1, zI l2] [zR 98] 137 (up h 98 0 0)) (kf : 0 ≤ l1 → Wp mX12_wall (kR fr M1 M2) Q (b1, b2) 10 [zR 98, zI l1, zI l2] [zR 98] 137 (up h 98 0 0)) : Wp mX12_wall (kR fr M1 M2) Q (b1, b2) 0 [zR 98, zI l1, zI l2] [] 137 h := by
  refine s_aload_n (x := 98) dX12_wall_0 rfl ?_
  refine s_iconst dX12_wall_1 ?_
  refine s_put (c := 98) dX12_wall_2 lX12_136 e98 ?_
  refine s_aload_n (x := 98) dX12_wall_5 rfl ?_
  refine s_iload_n (x := l1) dX12_wall_6 rfl ?_
  exact s_if_lt (tgt := 31) dX12_wall_7 (by decide) r1 kt kf
theorem bX12_wall_10 {fr M1 M2 b1 b2 : Nat} {Q : RS → Nat → AH → Prop} {h : AH} {l1 l2 : Int}  (r1 : -2147483648 ≤ l1 ∧ l1 < 2147483648 := by omega) (r2 : -2147483648 ≤ h 98 2 ∧ h 98 2 < 2147483648 := by omega) (kt : h 98 2 ≤ l1 → Wp mX12_wall (kR fr M1 M2) Q (b1, b2) 31 [zR 98, zI l1, zI l2] [zR 98] 137 h) (kf : l1 < h 98 2 → Wp mX12_wall (kR fr M1 M2) Q (b1, b2) 18 [zR 98, zI l1, zI l2] [zR 98] 137 h) : Wp mX12_wall (kR fr M1 M2) Q (b1, b2) 10 [zR 98, zI l1, zI l2] [zR 98] 137 h := by
  refine s_iload_n (x := l1) dX12_wall_10 rfl ?_
  refine s_aload_n (x := 98) dX12_wall_11 rfl ?_
  refine s_get (c := 98) dX12_wall_12 lX12_270 e98 (by decide) ?_
  exact s_icmp_ge (tgt := 31) dX12_wall_15 (by decide) r1 r2 kt kf
theorem bX12_wall_18 {fr M1 M2 b1 b2 : Nat} {Q : RS → Nat → AH → Prop} {h : AH} {l1 l2 : Int} {R : Int → AH → Prop}   (hS : Sp mX12_within true (fr - 1) 0 0 [zI l2, zI 0, zI 5] 137 h (rI R)) (hf : 1 ≤ fr := by omega) (kk : ∀ (x : Int) (h' : AH), R x h' → Wp mX12_wall (kR fr M1 M2) Q (b1, b2) 24 [zR 98, zI l1, zI l2] [zI x, zR 98] 137 h') : Wp mX12_wall (kR fr M1 M2) Q (b1, b2) 18 [zR 98, zI l1, zI l2] [zR 98] 137 h := by
  refine s_iload_n (x := l2) dX12_wall_18 rfl ?_
  refine s_iconst dX12_wall_19 ?_
  refine s_iconst dX12_wall_20 ?_
  exact s_callS (as := [zI l2, zI 0, zI 5]) (st := [zR 98]) dX12_wall_21 kX12_301 rfl rfl (Nat.le_of_ble_eq_true rfl) hS (show fr - 1 + 1 ≤ fr by omega) (Nat.zero_le _) (Nat.zero_le _) (fun v n' h' hP _ => by obtain ⟨x, e, rfl, hR⟩ := hP; cases e; exact kk x h' hR) (fun E n' h' _ z => (rI_nt _ _ _ z).elim)
theorem bX12_wall_24 {fr M1 M2 b1 b2 : Nat} {Q : RS → Nat → AH → Prop} {h : AH} {l1 l2 s0 : Int}  (r1 : -2147483648 ≤ s0 ∧ s0 < 2147483648 := by omega) (kt : s0 = 0 → Wp mX12_wall (kR fr M1 M2) Q (b1, b2) 31 [zR 98, zI l1, zI l2] [zR 98] 137 h) (kf : ¬ s0 = 0 → Wp mX12_wall (kR fr M1 M2) Q (b1, b2) 27 [zR 98, zI l1, zI l2] [zR 98] 137 h) : Wp mX12_wall (kR fr M1 M2) Q (b1, b2) 24 [zR 98, zI l1, zI l2] [zI s0, zR 98] 137 h := by
  exact s_if_eq (tgt := 31) dX12_wall_24 (by decide) r1 kt kf
theorem bX12_wall_27 {fr M1 M2 b1 b2 : Nat} {Q : RS → Nat → AH → Prop} {h : AH} {l1 l2 : Int}   (kk : Wp mX12_wall (kR fr M1 M2) Q (b1, b2) 32 [zR 98, zI l1, zI l2] [zI 1, zR 98] 137 h) : Wp mX12_wall (kR fr M1 M2) Q (b1, b2) 27 [zR 98, zI l1, zI l2] [zR 98] 137 h := by
  refine s_iconst dX12_wall_27 ?_
  exact s_goto (tgt := 32) dX12_wall_28 (by decide) kk
theorem bX12_wall_31 {fr M1 M2 b1 b2 : Nat} {Q : RS → Nat → AH → Prop} {h : AH} {l1 l2 : Int}   (kk : Wp mX12_wall (kR fr M1 M2) Q (b1, b2) 32 [zR 98, zI l1, zI l2] [zI 0, zR 98] 137 h) : Wp mX12_wall (kR fr M1 M2) Q (b1, b2) 31 [zR 98, zI l1, zI l2] [zR 98] 137 h := by
  refine s_iconst dX12_wall_31 ?_
  exact kk
theorem bX12_wall_32 {fr M1 M2 b1 b2 : Nat} {Q : RS → Nat → AH → Prop} {h : AH} {l1 l2 s0 : Int} {R : Int → AH → Prop}   (hS : Sp mX12_right true (fr - 1) 0 0 [zR 98, zI s0, zI 1] 137 h (rI R)) (hf : 1 ≤ fr := by omega) (kk : ∀ (x : Int) (h' : AH), R x h' → Wp mX12_wall (kR fr M1 M2) Q (b1, b2) 36 [zR 98, zI l1, zI l2] [zI x] 137 h') : Wp mX12_wall (kR fr M1 M2) Q (b1, b2) 32 [zR 98, zI l1, zI l2] [zI s0, zR 98] 137 h := by
  refine s_iconst dX12_wall_32 ?_
  exact s_callV (as := [zI s0, zI 1]) (st := []) (o := 98) dX12_wall_33 kX12_260 rfl ⟨12, 87, TX12, e98, rfl, by decide⟩ rfl rfl (Nat.le_of_ble_eq_true rfl) hS (show fr - 1 + 1 ≤ fr by omega) (Nat.zero_le _) (Nat.zero_le _) (fun v n' h' hP _ => by obtain ⟨x, e, rfl, hR⟩ := hP; cases e; exact kk x h' hR) (fun E n' h' _ z => (rI_nt _ _ _ z).elim)
theorem bX12_wall_36 {fr M1 M2 b1 b2 : Nat} {Q : RS → Nat → AH → Prop} {h : AH} {l1 l2 s0 : Int}  (r1 : -2147483648 ≤ s0 ∧ s0 < 2147483648 := by omega) (kt : s0 = 0 → Wp mX12_wall (kR fr M1 M2) Q (b1, b2) 53 [zR 98, zI l1, zI l2] [] 137 h) (kf : ¬ s0 = 0 → Wp mX12_wall (kR fr M1 M2) Q (b1, b2) 39 [zR 98, zI l1, zI l2] [] 137 h) : Wp mX12_wall (kR fr M1 M2) Q (b1, b2) 36 [zR 98, zI l1, zI l2] [zI s0] 137 h := by
  exact s_if_eq (tgt := 53) dX12_wall_36 (by decide) r1 kt kf
theorem bX12_wall_39 {fr M1 M2 b1 b2 : Nat} {Q : RS → Nat → AH → Prop} {h : AH} {l1 l2 : Int}  (r1 : 0 ≤ (6 * l1) + l2 ∧ (6 * l1) + l2 < 36 := by omega) (kk : Wp mX12_wall (kR fr M1 M2) Q (b1, b2) 54 [zR 98, zI l1, zI l2] [zI (h 100 ((6 * l1) + l2))] 137 h) : Wp mX12_wall (kR fr M1 M2) Q (b1, b2) 39 [zR 98, zI l1, zI l2] [] 137 h := by
  refine s_aload_n (x := 98) dX12_wall_39 rfl ?_
  refine s_getFd (c := 98) (d := 100) dX12_wall_40 lX12_17 e98 (Or.inl rfl) (by decide) (by decide) ?_
  refine s_bipush dX12_wall_43 (by decide) ?_
  refine s_iload_n (x := l1) dX12_wall_45 rfl ?_
  refine s_imul dX12_wall_46 ?_
  refine s_iload_n (x := l2) dX12_wall_47 rfl ?_
  refine s_iadd dX12_wall_48 ?_
  refine s_iald (c := 100) (i := (6 * l1) + l2) dX12_wall_49 e100 r1.1 r1.2 ?_
  exact s_goto (tgt := 54) dX12_wall_50 (by decide) kk
theorem bX12_wall_53 {fr M1 M2 b1 b2 : Nat} {Q : RS → Nat → AH → Prop} {h : AH} {x0 x1 x2 : AV}   (kk : Wp mX12_wall (kR fr M1 M2) Q (b1, b2) 54 [none, none, none] [zI 0] 137 h) : Wp mX12_wall (kR fr M1 M2) Q (b1, b2) 53 [x0, x1, x2] [] 137 h := by
  refine s_fgt (fgt_n _ (fgt_n _ (fgt_n _ fgt_0))) ?_
  refine s_iconst dX12_wall_53 ?_
  exact kk
theorem bX12_wall_54 {fr M1 M2 b1 b2 : Nat} {Q : RS → Nat → AH → Prop} {h : AH} {s0 : Int} {x0 x1 x2 : AV}   (hq : Q (.inl (some (zI s0))) 137 h) : Wp mX12_wall (kR fr M1 M2) Q (b1, b2) 54 [x0, x1, x2] [zI s0] 137 h := by
  refine s_fgt (fgt_n _ (fgt_n _ (fgt_n _ fgt_0))) ?_
  exact s_ireturn dX12_wall_54 ⟨.int, rfl, rfl⟩ hq (fun z => by cases z)
theorem dX12_word_0 : decode mX12_word.cd 0 = .ok (.aload_n 0, 1) := by decide +kernel
theorem dX12_word_1 : decode mX12_word.cd 1 = .ok (.iconst 0, 1) := by decide +kernel
theorem dX12_word_2 : decode mX12_word.cd 2 = .ok (.putfield 136, 3) := by decide +kernel
theorem dX12_word_5 : decode mX12_word.cd 5 = .ok (.aload_n 0, 1) := by decide +kernel
theorem dX12_word_6 : decode mX12_word.cd 6 = .ok (.iload_n 1, 1) := by decide +kernel
theorem dX12_word_7 : decode mX12_word.cd 7 = .ok (.ifCond .lt 36, 3) := by decide +kernel
theorem dX12_word_10 : decode mX12_word.cd 10 = .ok (.iload_n 1, 1) := by decide +kernel
theorem dX12_word_11 : decode mX12_word.cd 11 = .ok (.aload_n 0, 1) := by decide +kernel
theorem dX12_word_12 : decode mX12_word.cd 12 = .ok (.getfield 273, 3) := by decide +kernel
theorem dX12_word_15 : decode mX12_word.cd 15 = .ok (.if_icmp .ge 28, 3) := by decide +kernel
theorem dX12_word_18 : decode mX12_word.cd 18 = .ok (.iload_n 2, 1) := by decide +kernel
theorem dX12_word_19 : decode mX12_word.cd 19 = .ok (.ifCond .lt 24, 3) := by decide +kernel
theorem dX12_word_22 : decode mX12_word.cd 22 = .ok (.iload_n 2, 1) := by decide +kernel
theorem dX12_word_23 : decode mX12_word.cd 23 = .ok (.iconst 2, 1) := by decide +kernel
theorem dX12_word_24 : decode mX12_word.cd 24 = .ok (.aload_n 0, 1) := by decide +kernel
theorem dX12_word_25 : decode mX12_word.cd 25 = .ok (.getfield 20, 3) := by decide +kernel
theorem dX12_word_28 : decode mX12_word.cd 28 = .ok (.bipush 6, 2) := by decide +kernel
theorem dX12_word_30 : decode mX12_word.cd 30 = .ok (.iload_n 1, 1) := by decide +kernel
theorem dX12_word_31 : decode mX12_word.cd 31 = .ok (.imul, 1) := by decide +kernel
theorem dX12_word_32 : decode mX12_word.cd 32 = .ok (.iconst 1, 1) := by decide +kernel
theorem dX12_word_33 : decode mX12_word.cd 33 = .ok (.iadd, 1) := by decide +kernel
theorem dX12_word_34 : decode mX12_word.cd 34 = .ok (.iaload, 1) := by decide +kernel
theorem dX12_word_35 : decode mX12_word.cd 35 = .ok (.iadd, 1) := by decide +kernel
theorem dX12_word_36 : decode mX12_word.cd 36 = .ok (.if_icmp .ge 7, 3) := by decide +kernel
theorem dX12_word_39 : decode mX12_word.cd 39 = .ok (.iconst 1, 1) := by decide +kernel
theorem dX12_word_40 : decode mX12_word.cd 40 = .ok (.goto 4, 3) := by decide +kernel
theorem dX12_word_43 : decode mX12_word.cd 43 = .ok (.iconst 0, 1) := by decide +kernel
theorem dX12_word_44 : decode mX12_word.cd 44 = .ok (.iconst 1, 1) := by decide +kernel
theorem dX12_word_45 : decode mX12_word.cd 45 = .ok (.invokevirtual 260, 3) := by decide +kernel
theorem dX12_word_48 : decode mX12_word.cd 48 = .ok (.ifCond .eq 17, 3) := by decide +kernel
theorem dX12_word_51 : decode mX12_word.cd 51 = .ok (.aload_n 0, 1) := by decide +kernel
theorem dX12_word_52 : decode mX12_word.cd 52 = .ok (.getfield 20, 3) := by decide +kernel
theorem dX12_word_55 : decode mX12_word.cd 55 = .ok (.bipush 6, 2) := by decide +kernel
theorem dX12_word_57 : decode mX12_word.cd 57 = .ok (.iload_n 1, 1) := by decide +kernel
theorem dX12_word_58 : decode mX12_word.cd 58 = .ok (.imul, 1) := by decide +kernel
theorem dX12_word_59 : decode mX12_word.cd 59 = .ok (.iload_n 2, 1) := by decide +kernel
theorem dX12_word_60 : decode mX12_word.cd 60 = .ok (.iadd, 1) := by decide +kernel
theorem dX12_word_61 : decode mX12_word.cd 61 = .ok (.iaload, 1) := by decide +kernel
theorem dX12_word_62 : decode mX12_word.cd 62 = .ok (.goto 4, 3) := by decide +kernel
theorem dX12_word_65 : decode mX12_word.cd 65 = .ok (.iconst 0, 1) := by decide +kernel
theorem dX12_word_66 : decode mX12_word.cd 66 = .ok (.ireturn, 1) := by decide +kernel
theorem bX12_word_0 {fr M1 M2 b1 b2 : Nat} {Q : RS → Nat → AH → Prop} {h : AH} {l1 l2 : Int}  (r1 : -2147483648 ≤ l1 ∧ l1 < 2147483648 := by omega) (kt : l1 < 0 → Wp mX12_word (kR fr M1 M2) Q (b1, b2) 43 [zR 98, zI l1, zI l2] [zR 98] 137 (up h 98 0 0)) (kf : 0 ≤ l1 → Wp mX12_word (kR fr M1 M2) Q (b1, b2) 10 [zR 98, zI l1, zI l2] [zR 98] 137 (up h 98 0 0)) : Wp mX12_word (kR fr M1 M2) Q (b1, b2) 0 [zR 98, zI l1, zI l2] [] 137 h := by
  refine s_aload_n (x := 98) dX12_word_0 rfl ?_
  refine s_iconst dX12_word_1 ?_
  refine s_put (c := 98) dX12_word_2 lX12_136 e98 ?_
  refine s_aload_n (x := 98) dX12_word_5 rfl ?_
  refine s_iload_n (x := l1) dX12_word_6 rfl ?_
  exact s_if_lt (tgt := 43) dX12_word_7 (by decide) r1 kt kf
theorem bX12_word_10 {fr M1 M2 b1 b2 : Nat} {Q : RS → Nat → AH → Prop} {h : AH} {l1 l2 : Int}  (r1 : -2147483648 ≤ l1 ∧ l1 < 2147483648 := by omega) (r2 : -2147483648 ≤ h 98 3 ∧ h 98 3 < 2147483648 := by omega) (kt : h 98 3 ≤ l1 → Wp mX12_word (kR fr M1 M2) Q (b1, b2) 43 [zR 98, zI l1, zI l2] [zR 98] 137 h) (kf : l1 < h 98 3 → Wp mX12_word (kR fr M1 M2) Q (b1, b2) 18 [zR 98, zI l1, zI l2] [zR 98] 137 h) : Wp mX12_word (kR fr M1 M2) Q (b1, b2) 10 [zR 98, zI l1, zI l2] [zR 98] 137 h := by
  refine s_iload_n (x := l1) dX12_word_10 rfl ?_
  refine s_aload_n (x := 98) dX12_word_11 rfl ?_
  refine s_get (c := 98) dX12_word_12 lX12_273 e98 (by decide) ?_
  exact s_icmp_ge (tgt := 43) dX12_word_15 (by decide) r1 r2 kt kf
theorem bX12_word_18 {fr M1 M2 b1 b2 : Nat} {Q : RS → Nat → AH → Prop} {h : AH} {l1 l2 : Int}  (r1 : -2147483648 ≤ l2 ∧ l2 < 2147483648 := by omega) (kt : l2 < 0 → Wp mX12_word (kR fr M1 M2) Q (b1, b2) 43 [zR 98, zI l1, zI l2] [zR 98] 137 h) (kf : 0 ≤ l2 → Wp mX12_word (kR fr M1 M2) Q (b1, b2) 22 [zR 98, zI l1, zI l2] [zR 98] 137 h) : Wp mX12_word (kR fr M1 M2) Q (b1, b2) 18 [zR 98, zI l1, zI l2] [zR 98] 137 h := by
  refine s_iload_n (x := l2) dX12_word_18 rfl ?_
  exact s_if_lt (tgt := 43) dX12_word_19 (by decide) r1 kt kf
theorem bX12_word_22 {fr M1 M2 b1 b2 : Nat} {Q : RS → Nat → AH → Prop} {h : AH} {l1 l2 : Int}  (r1 : 0 ≤ (6 * l1) + 1 ∧ (6 * l1) + 1 < 48 := by omega) (r2 : -2147483648 ≤ l2 ∧ l2 < 2147483648 := by omega) (r3 : -2147483648 ≤ 2 + (h 101 ((6 * l1) + 1)) ∧ 2 + (h 101 ((6 * l1) + 1)) < 2147483648 := by omega) (kt : 2 + (h 101 ((6 * l1) + 1)) ≤ l2 → Wp mX12_word (kR fr M1 M2) Q (b1, b2) 43 [zR 98, zI l1, zI l2] [zR 98] 137 h) (kf : l2 < 2 + (h 101 ((6 * l1) + 1)) → Wp mX12_word (kR fr M1 M2) Q (b1, b2) 39 [zR 98, zI l1, zI l2] [zR 98] 137 h) : Wp mX12_word (kR fr M1 M2) Q (b1, b2) 22 [zR 98, zI l1, zI l2] [zR 98] 137 h := by
  refine s_iload_n (x := l2) dX12_word_22 rfl ?_
  refine s_iconst dX12_word_23 ?_
  refine s_aload_n (x := 98) dX12_word_24 rfl ?_
  refine s_getFd (c := 98) (d := 101) dX12_word_25 lX12_20 e98 (Or.inl rfl) (by decide) (by decide) ?_
  refine s_bipush dX12_word_28 (by decide) ?_
  refine s_iload_n (x := l1) dX12_word_30 rfl ?_
  refine s_imul dX12_word_31 ?_
  refine s_iconst dX12_word_32 ?_
  refine s_iadd dX12_word_33 ?_
  refine s_iald (c := 101) (i := (6 * l1) + 1) dX12_word_34 e101 r1.1 r1.2 ?_
  refine s_iadd dX12_word_35 ?_
  exact s_icmp_ge (tgt := 43) dX12_word_36 (by decide) r2 r3 kt kf
theorem bX12_word_39 {fr M1 M2 b1 b2 : Nat} {Q : RS → Nat → AH → Prop} {h : AH} {l1 l2 : Int}   (kk : Wp mX12_word (kR fr M1 M2) Q (b1, b2) 44 [zR 98, zI l1, zI l2] [zI 1, zR 98] 137 h) : Wp mX12_word (kR fr M1 M2) Q (b1, b2) 39 [zR 98, zI l1, zI l2] [zR 98] 137 h := by
  refine s_iconst dX12_word_39 ?_
  exact s_goto (tgt := 44) dX12_word_40 (by decide) kk
theorem bX12_word_43 {fr M1 M2 b1 b2 : Nat} {Q : RS → Nat → AH → Prop} {h : AH} {l1 l2 : Int}   (kk : Wp mX12_word (kR fr M1 M2) Q (b1, b2) 44 [zR 98, zI l1, zI l2] [zI 0, zR 98] 137 h) : Wp mX12_word (kR fr M1 M2) Q (b1, b2) 43 [zR 98, zI l1, zI l2] [zR 98] 137 h := by
  refine s_iconst dX12_word_43 ?_
  exact kk
theorem bX12_word_44 {fr M1 M2 b1 b2 : Nat} {Q : RS → Nat → AH → Prop} {h : AH} {l1 l2 s0 : Int} {R : Int → AH → Prop}   (hS : Sp mX12_right true (fr - 1) 0 0 [zR 98, zI s0, zI 1] 137 h (rI R)) (hf : 1 ≤ fr := by omega) (kk : ∀ (x : Int) (h' : AH), R x h' → Wp mX12_word (kR fr M1 M2) Q (b1, b2) 48 [zR 98, zI l1, zI l2] [zI x] 137 h') : Wp mX12_word (kR fr M1 M2) Q (b1, b2) 44 [zR 98, zI l1, zI l2] [zI s0, zR 98] 137 h := by
  refine s_iconst dX12_word_44 ?_
  exact s_callV (as := [zI s0, zI 1]) (st := []) (o := 98) dX12_word_45 kX12_260 rfl ⟨12, 87, TX12, e98, rfl, by decide⟩ rfl rfl (Nat.le_of_ble_eq_true rfl) hS (show fr - 1 + 1 ≤ fr by omega) (Nat.zero_le _) (Nat.zero_le _) (fun v n' h' hP _ => by obtain ⟨x, e, rfl, hR⟩ := hP; cases e; exact kk x h' hR) (fun E n' h' _ z => (rI_nt _ _ _ z).elim)
theorem bX12_word_48 {fr M1 M2 b1 b2 : Nat} {Q : RS → Nat → AH → Prop} {h : AH} {l1 l2 s0 : Int}  (r1 : -2147483648 ≤ s0 ∧ s0 < 2147483648 := by omega) (kt : s0 = 0 → Wp mX12_word (kR fr M1 M2) Q (b1, b2) 65 [zR 98, zI l1, zI l2] [] 137 h) (kf : ¬ s0 = 0 → Wp mX12_word (kR fr M1 M2) Q (b1, b2) 51 [zR 98, zI l1, zI l2] [] 137 h) : Wp mX12_word (kR fr M1 M2) Q (b1, b2) 48 [zR 98, zI l1, zI l2] [zI s0] 137 h := by
  exact s_if_eq (tgt := 65) dX12_word_48 (by decide) r1 kt kf
theorem bX12_word_51 {fr M1 M2 b1 b2 : Nat} {Q : RS → Nat → AH → Prop} {h : AH} {l1 l2 : Int}  (r1 : 0 ≤ (6 * l1) + l2 ∧ (6 * l1) + l2 < 48 := by omega) (kk : Wp mX12_word (kR fr M1 M2) Q (b1, b2) 66 [zR 98, zI l1, zI l2] [zI (h 101 ((6 * l1) + l2))] 137 h) : Wp mX12_word (kR fr M1 M2) Q (b1, b2) 51 [zR 98, zI l1, zI l2] [] 137 h := by
  refine s_aload_n (x := 98) dX12_word_51 rfl ?_
  refine s_getFd (c := 98) (d := 101) dX12_word_52 lX12_20 e98 (Or.inl rfl) (by decide) (by decide) ?_
  refine s_bipush dX12_word_55 (by decide) ?_
  refine s_iload_n (x := l1) dX12_word_57 rfl ?_
  refine s_imul dX12_word_58 ?_
  refine s_iload_n (x := l2) dX12_word_59 rfl ?_
  refine s_iadd dX12_word_60 ?_
  refine s_iald (c := 101) (i := (6 * l1) + l2) dX12_word_61 e101 r1.1 r1.2 ?_
  exact s_goto (tgt := 66) dX12_word_62 (by decide) kk
theorem bX12_word_65 {fr M1 M2 b1 b2 : Nat} {Q : RS → Nat → AH → Prop} {h : AH} {x0 x1 x2 : AV}   (kk : Wp mX12_word (kR fr M1 M2) Q (b1, b2) 66 [none, none, none] [zI 0] 137 h) : Wp mX12_word (kR fr M1 M2) Q (b1, b2) 65 [x0, x1, x2] [] 137 h := by
  refine s_fgt (fgt_n _ (fgt_n _ (fgt_n _ fgt_0))) ?_
  refine s_iconst dX12_word_65 ?_
  exact kk
theorem bX12_word_66 {fr M1 M2 b1 b2 : Nat} {Q : RS → Nat → AH → Prop} {h : AH} {s0 : Int} {x0 x1 x2 : AV}   (hq : Q (.inl (some (zI s0))) 137 h) : Wp mX12_word (kR fr M1 M2) Q (b1, b2) 66 [x0, x1, x2] [zI s0] 137 h := by
  refine s_fgt (fgt_n _ (fgt_n _ (fgt_n _ fgt_0))) ?_
  exact s_ireturn dX12_word_66 ⟨.int, rfl, rfl⟩ hq (fun z => by cases z)
theorem dX12_isSound_0 : decode mX12_isSound.cd 0 = .ok (.aload_n 0, 1) := by decide +kernel
theorem dX12_isSound_1 : decode mX12_isSound.cd 1 = .ok (.iload_n 1, 1) := by decide +kernel
theorem dX12_isSound_2 : decode mX12_isSound.cd 2 = .ok (.ifCond .lt 15, 3) := by decide +kernel
theorem dX12_isSound_5 : decode mX12_isSound.cd 5 = .ok (.iload_n 1, 1) := by decide +kernel
theorem dX12_isSound_6 : decode mX12_isSound.cd 6 = .ok (.aload_n 0, 1) := by decide +kernel
theorem dX12_isSound_7 : decode mX12_isSound.cd 7 = .ok (.getfield 267, 3) := by decide +kernel
theorem dX12_isSound_10 : decode mX12_isSound.cd 10 = .ok (.if_icmp .ge 7, 3) := by decide +kernel
theorem dX12_isSound_13 : decode mX12_isSound.cd 13 = .ok (.iconst 1, 1) := by decide +kernel
theorem dX12_isSound_14 : decode mX12_isSound.cd 14 = .ok (.goto 4, 3) := by decide +kernel
theorem dX12_isSound_17 : decode mX12_isSound.cd 17 = .ok (.iconst 0, 1) := by decide +kernel
theorem dX12_isSound_18 : decode mX12_isSound.cd 18 = .ok (.iconst 1, 1) := by decide +kernel
theorem dX12_isSound_19 : decode mX12_isSound.cd 19 = .ok (.invokevirtual 260, 3) := by decide +kernel
theorem dX12_isSound_22 : decode mX12_isSound.cd 22 = .ok (.ireturn, 1) := by decide +kernel
theorem bX12_isSound_0 {fr M1 M2 b1 b2 : Nat} {Q : RS → Nat → AH → Prop} {h : AH} {l1 : Int}  (r1 : -2147483648 ≤ l1 ∧ l1 < 2147483648 := by omega) (kt : l1 < 0 → Wp mX12_isSound (kR fr M1 M2) Q (b1, b2) 17 [zR 98, zI l1] [zR 98] 137 h) (kf : 0 ≤ l1 → Wp mX12_isSound (kR fr M1 M2) Q (b1, b2) 5 [zR 98, zI l1] [zR 98] 137 h) : Wp mX12_isSound (kR fr M1 M2) Q (b1, b2) 0 [zR 98, zI l1] [] 137 h := by
  refine s_aload_n (x := 98) dX12_isSound_0 rfl ?_
  refine s_iload_n (x := l1) dX12_isSound_1 rfl ?_
  exact s_if_lt (tgt := 17) dX12_isSound_2 (by decide) r1 kt kf
theorem bX12_isSound_5 {fr M1 M2 b1 b2 : Nat} {Q : RS → Nat → AH → Prop} {h : AH} {l1 : Int}  (r1 : -2147483648 ≤ l1 ∧ l1 < 2147483648 := by omega) (r2 : -2147483648 ≤ h 98 1 ∧ h 98 1 < 2147483648 := by omega) (kt : h 98 1 ≤ l1 → Wp mX12_isSound (kR fr M1 M2) Q (b1, b2) 17 [zR 98, zI l1] [zR 98] 137 h) (kf : l1 < h 98 1 → Wp mX12_isSound (kR fr M1 M2) Q (b1, b2) 13 [zR 98, zI l1] [zR 98] 137 h) : Wp mX12_isSound (kR fr M1 M2) Q (b1, b2) 5 [zR 98, zI l1] [zR 98] 137 h := by
  refine s_iload_n (x := l1) dX12_isSound_5 rfl ?_
  refine s_aload_n (x := 98) dX12_isSound_6 rfl ?_
  refine s_get (c := 98) dX12_isSound_7 lX12_267 e98 (by decide) ?_
  exact s_icmp_ge (tgt := 17) dX12_isSound_10 (by decide) r1 r2 kt kf
theorem bX12_isSound_13 {fr M1 M2 b1 b2 : Nat} {Q : RS → Nat → AH → Prop} {h : AH} {x0 x1 : AV}   (kk : Wp mX12_isSound (kR fr M1 M2) Q (b1, b2) 18 [none, none] [zI 1, zR 98] 137 h) : Wp mX12_isSound (kR fr M1 M2) Q (b1, b2) 13 [x0, x1] [zR 98] 137 h := by
  refine s_fgt (fgt_n _ (fgt_n _ fgt_0)) ?_
  refine s_iconst dX12_isSound_13 ?_
  exact s_goto (tgt := 18) dX12_isSound_14 (by decide) kk
theorem bX12_isSound_17 {fr M1 M2 b1 b2 : Nat} {Q : RS → Nat → AH → Prop} {h : AH} {x0 x1 : AV}   (kk : Wp mX12_isSound (kR fr M1 M2) Q (b1, b2) 18 [none, none] [zI 0, zR 98] 137 h) : Wp mX12_isSound (kR fr M1 M2) Q (b1, b2) 17 [x0, x1] [zR 98] 137 h := by
  refine s_fgt (fgt_n _ (fgt_n _ fgt_0)) ?_
  refine s_iconst dX12_isSound_17 ?_
  exact kk
theorem bX12_isSound_18 {fr M1 M2 b1 b2 : Nat} {Q : RS → Nat → AH → Prop} {h : AH} {s0 : Int} {x0 x1 : AV} {R : Int → AH → Prop}   (hS : Sp mX12_right true (fr - 1) 0 0 [zR 98, zI s0, zI 1] 137 h (rI R)) (hf : 1 ≤ fr := by omega) (kk : ∀ (x : Int) (h' : AH), R x h' → Wp mX12_isSound (kR fr M1 M2) Q (b1, b2) 22 [none, none] [zI x] 137 h') : Wp mX12_isSound (kR fr M1 M2) Q (b1, b2) 18 [x0, x1] [zI s0, zR 98] 137 h := by
  refine s_fgt (fgt_n _ (fgt_n _ fgt_0)) ?_
  refine s_iconst dX12_isSound_18 ?_
  exact s_callV (as := [zI s0, zI 1]) (st := []) (o := 98) dX12_isSound_19 kX12_260 rfl ⟨12, 87, TX12, e98, rfl, by decide⟩ rfl rfl (Nat.le_of_ble_eq_true rfl) hS (show fr - 1 + 1 ≤ fr by omega) (Nat.zero_le _) (Nat.zero_le _) (fun v n' h' hP _ => by obtain ⟨x, e, rfl, hR⟩ := hP; cases e; exact kk x h' hR) (fun E n' h' _ z => (rI_nt _ _ _ z).elim)
theorem bX12_isSound_22 {fr M1 M2 b1 b2 : Nat} {Q : RS → Nat → AH → Prop} {h : AH} {s0 : Int} {x0 x1 : AV}  (r1 : s0 = 0 ∨ s0 = 1 := by omega) (hq : Q (.inl (some (zI s0))) 137 h) : Wp mX12_isSound (kR fr M1 M2) Q (b1, b2) 22 [x0, x1] [zI s0] 137 h := by
  refine s_fgt (fgt_n _ (fgt_n _ fgt_0)) ?_
  exact s_ireturn dX12_isSound_22 ⟨.boolean, rfl, bool_nar r1⟩ hq (fun z => by cases z)
