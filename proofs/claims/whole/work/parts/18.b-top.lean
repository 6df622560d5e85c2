theorem dX11_feed_0 : decode mX11_feed.cd 0 = .ok (.aload_n 0, 1) := by decide +kernel
theorem dX11_feed_1 : decode mX11_feed.cd 1 = .ok (.getfield 13, 3) := by decide +kernel
theorem dX11_feed_4 : decode mX11_feed.cd 4 = .ok (.bipush 20, 2) := by decide +kernel
theorem dX11_feed_6 : decode mX11_feed.cd 6 = .ok (.iadd, 1) := by decide +kernel
theorem dX11_feed_7 : decode mX11_feed.cd 7 = .ok (.sipush 700, 3) := by decide +kernel
theorem dX11_feed_10 : decode mX11_feed.cd 10 = .ok (.if_icmp .le 5, 3) := by decide +kernel
theorem dX11_feed_13 : decode mX11_feed.cd 13 = .ok (.iconst (-1), 1) := by decide +kernel
theorem dX11_feed_14 : decode mX11_feed.cd 14 = .ok (.ireturn, 1) := by decide +kernel
theorem dX11_feed_15 : decode mX11_feed.cd 15 = .ok (.aload_n 0, 1) := by decide +kernel
theorem dX11_feed_16 : decode mX11_feed.cd 16 = .ok (.iload_n 1, 1) := by decide +kernel
theorem dX11_feed_17 : decode mX11_feed.cd 17 = .ok (.invokevirtual 111, 3) := by decide +kernel
theorem dX11_feed_20 : decode mX11_feed.cd 20 = .ok (.aload_n 0, 1) := by decide +kernel
theorem dX11_feed_21 : decode mX11_feed.cd 21 = .ok (.iload_n 2, 1) := by decide +kernel
theorem dX11_feed_22 : decode mX11_feed.cd 22 = .ok (.invokevirtual 111, 3) := by decide +kernel
theorem dX11_feed_25 : decode mX11_feed.cd 25 = .ok (.aload_n 0, 1) := by decide +kernel
theorem dX11_feed_26 : decode mX11_feed.cd 26 = .ok (.iload_n 3, 1) := by decide +kernel
theorem dX11_feed_27 : decode mX11_feed.cd 27 = .ok (.invokevirtual 111, 3) := by decide +kernel
theorem dX11_feed_30 : decode mX11_feed.cd 30 = .ok (.aload_n 0, 1) := by decide +kernel
theorem dX11_feed_31 : decode mX11_feed.cd 31 = .ok (.iload 4, 2) := by decide +kernel
theorem dX11_feed_33 : decode mX11_feed.cd 33 = .ok (.invokevirtual 111, 3) := by decide +kernel
theorem dX11_feed_36 : decode mX11_feed.cd 36 = .ok (.aload_n 0, 1) := by decide +kernel
theorem dX11_feed_37 : decode mX11_feed.cd 37 = .ok (.iload 5, 2) := by decide +kernel
theorem dX11_feed_39 : decode mX11_feed.cd 39 = .ok (.invokevirtual 111, 3) := by decide +kernel
theorem dX11_feed_42 : decode mX11_feed.cd 42 = .ok (.aload_n 0, 1) := by decide +kernel
theorem dX11_feed_43 : decode mX11_feed.cd 43 = .ok (.getfield 13, 3) := by decide +kernel
theorem dX11_feed_46 : decode mX11_feed.cd 46 = .ok (.ireturn, 1) := by decide +kernel
theorem bX11_feed_0 {fr M1 M2 b1 b2 : Nat} {Q : RS → Nat → AH → Prop} {h : AH} {l1 l2 l3 l4 l5 : Int}  (r1 : -2147483648 ≤ (h 1 1) + 20 ∧ (h 1 1) + 20 < 2147483648 := by omega) (kt : (h 1 1) + 20 ≤ 700 → Wp mX11_feed (kR fr M1 M2) Q (b1, b2) 15 [zR 1, zI l1, zI l2, zI l3, zI l4, zI l5] [] 137 h) (kf : 700 < (h 1 1) + 20 → Wp mX11_feed (kR fr M1 M2) Q (b1, b2) 13 [zR 1, zI l1, zI l2, zI l3, zI l4, zI l5] [] 137 h) : Wp mX11_feed (kR fr M1 M2) Q (b1, b2) 0 [zR 1, zI l1, zI l2, zI l3, zI l4, zI l5] [] 137 h := by
  refine s_aload_n (x := 1) dX11_feed_0 rfl ?_
  refine s_get (c := 1) dX11_feed_1 lX11_13 e1 (by decide) ?_
  refine s_bipush dX11_feed_4 (by decide) ?_
  refine s_iadd dX11_feed_6 ?_
  refine s_sipush dX11_feed_7 (by decide) ?_
  exact s_icmp_le (tgt := 15) dX11_feed_10 (by decide) r1 ⟨by decide, by decide⟩ kt kf
theorem bX11_feed_13 {fr M1 M2 b1 b2 : Nat} {Q : RS → Nat → AH → Prop} {h : AH} {x0 x1 x2 x3 x4 x5 : AV}   (hq : Q (.inl (some (zI (-1)))) 137 h) : Wp mX11_feed (kR fr M1 M2) Q (b1, b2) 13 [x0, x1, x2, x3, x4, x5] [] 137 h := by
  refine s_fgt (fgt_n _ (fgt_n _ (fgt_n _ (fgt_n _ (fgt_n _ (fgt_n _ fgt_0)))))) ?_
  refine s_iconst dX11_feed_13 ?_
  exact s_ireturn dX11_feed_14 ⟨.int, rfl, rfl⟩ hq (fun z => by cases z)
theorem bX11_feed_15 {fr M1 M2 b1 b2 : Nat} {Q : RS → Nat → AH → Prop} {h : AH} {l1 l2 l3 l4 l5 : Int} {R : AH → Prop}   (hS : Sp mX11_tapeNumber true (fr - 1) 0 0 [zR 1, zI l1] 137 h (rV R)) (hf : 1 ≤ fr := by omega) (kk : ∀ h' : AH, R h' → Wp mX11_feed (kR fr M1 M2) Q (b1, b2) 20 [zR 1, zI l1, zI l2, zI l3, zI l4, zI l5] [] 137 h') : Wp mX11_feed (kR fr M1 M2) Q (b1, b2) 15 [zR 1, zI l1, zI l2, zI l3, zI l4, zI l5] [] 137 h := by
  refine s_aload_n (x := 1) dX11_feed_15 rfl ?_
  refine s_iload_n (x := l1) dX11_feed_16 rfl ?_
  exact s_callV (as := [zI l1]) (st := []) (o := 1) dX11_feed_17 kX11_111 rfl ⟨11, 18, TX11, e1, rfl, by decide⟩ rfl rfl (Nat.le_of_ble_eq_true rfl) hS (show fr - 1 + 1 ≤ fr by omega) (Nat.zero_le _) (Nat.zero_le _) (fun v n' h' hP _ => by obtain ⟨e, rfl, hR⟩ := hP; cases e; exact kk h' hR) (fun E n' h' _ z => (rV_nt _ _ _ z).elim)
theorem bX11_feed_20 {fr M1 M2 b1 b2 : Nat} {Q : RS → Nat → AH → Prop} {h : AH} {l2 l3 l4 l5 : Int} {x1 : AV} {R : AH → Prop}   (hS : Sp mX11_tapeNumber true (fr - 1) 0 0 [zR 1, zI l2] 137 h (rV R)) (hf : 1 ≤ fr := by omega) (kk : ∀ h' : AH, R h' → Wp mX11_feed (kR fr M1 M2) Q (b1, b2) 25 [zR 1, none, zI l2, zI l3, zI l4, zI l5] [] 137 h') : Wp mX11_feed (kR fr M1 M2) Q (b1, b2) 20 [zR 1, x1, zI l2, zI l3, zI l4, zI l5] [] 137 h := by
  refine s_fgt (fgt_c (fgt_n _ (fgt_c (fgt_c (fgt_c (fgt_c fgt_0)))))) ?_
  refine s_aload_n (x := 1) dX11_feed_20 rfl ?_
  refine s_iload_n (x := l2) dX11_feed_21 rfl ?_
  exact s_callV (as := [zI l2]) (st := []) (o := 1) dX11_feed_22 kX11_111 rfl ⟨11, 18, TX11, e1, rfl, by decide⟩ rfl rfl (Nat.le_of_ble_eq_true rfl) hS (show fr - 1 + 1 ≤ fr by omega) (Nat.zero_le _) (Nat.zero_le _) (fun v n' h' hP _ => by obtain ⟨e, rfl, hR⟩ := hP; cases e; exact kk h' hR) (fun E n' h' _ z => (rV_nt _ _ _ z).elim)
theorem bX11_feed_25 {fr M1 M2 b1 b2 : Nat} {Q : RS → Nat → AH → Prop} {h : AH} {l3 l4 l5 : Int} {x1 x2 : AV} {R : AH → Prop}   (hS : Sp mX11_tapeNumber true (fr - 1) 0 0 [zR 1, zI l3] 137 h (rV R)) (hf : 1 ≤ fr := by omega) (kk : ∀ h' : AH, R h' → Wp mX11_feed (kR fr M1 M2) Q (b1, b2) 30 [zR 1, none, none, zI l3, zI l4, zI l5] [] 137 h') : Wp mX11_feed (kR fr M1 M2) Q (b1, b2) 25 [zR 1, x1, x2, zI l3, zI l4, zI l5] [] 137 h := by
  refine s_fgt (fgt_c (fgt_n _ (fgt_n _ (fgt_c (fgt_c (fgt_c fgt_0)))))) ?_
  refine s_aload_n (x := 1) dX11_feed_25 rfl ?_
  refine s_iload_n (x := l3) dX11_feed_26 rfl ?_
  exact s_callV (as := [zI l3]) (st := []) (o := 1) dX11_feed_27 kX11_111 rfl ⟨11, 18, TX11, e1, rfl, by decide⟩ rfl rfl (Nat.le_of_ble_eq_true rfl) hS (show fr - 1 + 1 ≤ fr by omega) (Nat.zero_le _) (Nat.zero_le _) (fun v n' h' hP _ => by obtain ⟨e, rfl, hR⟩ := hP; cases e; exact kk h' hR) (fun E n' h' _ z => (rV_nt _ _ _ z).elim)
theorem bX11_feed_30 {fr M1 M2 b1 b2 : Nat} {Q : RS → Nat → AH → Prop} {h : AH} {l4 l5 : Int} {x1 x2 x3 : AV} {R : AH → Prop}   (hS : Sp mX11_tapeNumber true (fr - 1) 0 0 [zR 1, zI l4] 137 h (rV R)) (hf : 1 ≤ fr := by omega) (kk : ∀ h' : AH, R h' → Wp mX11_feed (kR fr M1 M2) Q (b1, b2) 36 [zR 1, none, none, none, zI l4, zI l5] [] 137 h') : Wp mX11_feed (kR fr M1 M2) Q (b1, b2) 30 [zR 1, x1, x2, x3, zI l4, zI l5] [] 137 h := by
  refine s_fgt (fgt_c (fgt_n _ (fgt_n _ (fgt_n _ (fgt_c (fgt_c fgt_0)))))) ?_
  refine s_aload_n (x := 1) dX11_feed_30 rfl ?_
  refine s_iload (x := l4) dX11_feed_31 rfl ?_
  exact s_callV (as := [zI l4]) (st := []) (o := 1) dX11_feed_33 kX11_111 rfl ⟨11, 18, TX11, e1, rfl, by decide⟩ rfl rfl (Nat.le_of_ble_eq_true rfl) hS (show fr - 1 + 1 ≤ fr by omega) (Nat.zero_le _) (Nat.zero_le _) (fun v n' h' hP _ => by obtain ⟨e, rfl, hR⟩ := hP; cases e; exact kk h' hR) (fun E n' h' _ z => (rV_nt _ _ _ z).elim)
theorem bX11_feed_36 {fr M1 M2 b1 b2 : Nat} {Q : RS → Nat → AH → Prop} {h : AH} {l5 : Int} {x1 x2 x3 x4 : AV} {R : AH → Prop}   (hS : Sp mX11_tapeNumber true (fr - 1) 0 0 [zR 1, zI l5] 137 h (rV R)) (hf : 1 ≤ fr := by omega) (kk : ∀ h' : AH, R h' → Wp mX11_feed (kR fr M1 M2) Q (b1, b2) 42 [zR 1, none, none, none, none, zI l5] [] 137 h') : Wp mX11_feed (kR fr M1 M2) Q (b1, b2) 36 [zR 1, x1, x2, x3, x4, zI l5] [] 137 h := by
  refine s_fgt (fgt_c (fgt_n _ (fgt_n _ (fgt_n _ (fgt_n _ (fgt_c fgt_0)))))) ?_
  refine s_aload_n (x := 1) dX11_feed_36 rfl ?_
  refine s_iload (x := l5) dX11_feed_37 rfl ?_
  exact s_callV (as := [zI l5]) (st := []) (o := 1) dX11_feed_39 kX11_111 rfl ⟨11, 18, TX11, e1, rfl, by decide⟩ rfl rfl (Nat.le_of_ble_eq_true rfl) hS (show fr - 1 + 1 ≤ fr by omega) (Nat.zero_le _) (Nat.zero_le _) (fun v n' h' hP _ => by obtain ⟨e, rfl, hR⟩ := hP; cases e; exact kk h' hR) (fun E n' h' _ z => (rV_nt _ _ _ z).elim)
theorem bX11_feed_42 {fr M1 M2 b1 b2 : Nat} {Q : RS → Nat → AH → Prop} {h : AH} {x1 x2 x3 x4 x5 : AV}   (hq : Q (.inl (some (zI (h 1 1)))) 137 h) : Wp mX11_feed (kR fr M1 M2) Q (b1, b2) 42 [zR 1, x1, x2, x3, x4, x5] [] 137 h := by
  refine s_fgt (fgt_c (fgt_n _ (fgt_n _ (fgt_n _ (fgt_n _ (fgt_n _ fgt_0)))))) ?_
  refine s_aload_n (x := 1) dX11_feed_42 rfl ?_
  refine s_get (c := 1) dX11_feed_43 lX11_13 e1 (by decide) ?_
  exact s_ireturn dX11_feed_46 ⟨.int, rfl, rfl⟩ hq (fun z => by cases z)
theorem dX11_tapeNumber_0 : decode mX11_tapeNumber.cd 0 = .ok (.bipush 24, 2) := by decide +kernel
theorem dX11_tapeNumber_2 : decode mX11_tapeNumber.cd 2 = .ok (.istore_n 2, 1) := by decide +kernel
theorem dX11_tapeNumber_3 : decode mX11_tapeNumber.cd 3 = .ok (.iload_n 2, 1) := by decide +kernel
theorem dX11_tapeNumber_4 : decode mX11_tapeNumber.cd 4 = .ok (.ifCond .lt 42, 3) := by decide +kernel
theorem dX11_tapeNumber_7 : decode mX11_tapeNumber.cd 7 = .ok (.aload_n 0, 1) := by decide +kernel
theorem dX11_tapeNumber_8 : decode mX11_tapeNumber.cd 8 = .ok (.getfield 13, 3) := by decide +kernel
theorem dX11_tapeNumber_11 : decode mX11_tapeNumber.cd 11 = .ok (.sipush 700, 3) := by decide +kernel
theorem dX11_tapeNumber_14 : decode mX11_tapeNumber.cd 14 = .ok (.if_icmp .ge 32, 3) := by decide +kernel
theorem dX11_tapeNumber_17 : decode mX11_tapeNumber.cd 17 = .ok (.aload_n 0, 1) := by decide +kernel
theorem dX11_tapeNumber_18 : decode mX11_tapeNumber.cd 18 = .ok (.getfield 9, 3) := by decide +kernel
theorem dX11_tapeNumber_21 : decode mX11_tapeNumber.cd 21 = .ok (.aload_n 0, 1) := by decide +kernel
theorem dX11_tapeNumber_22 : decode mX11_tapeNumber.cd 22 = .ok (.getfield 13, 3) := by decide +kernel
theorem dX11_tapeNumber_25 : decode mX11_tapeNumber.cd 25 = .ok (.iload_n 1, 1) := by decide +kernel
theorem dX11_tapeNumber_26 : decode mX11_tapeNumber.cd 26 = .ok (.iload_n 2, 1) := by decide +kernel
theorem dX11_tapeNumber_27 : decode mX11_tapeNumber.cd 27 = .ok (.ishr, 1) := by decide +kernel
theorem dX11_tapeNumber_28 : decode mX11_tapeNumber.cd 28 = .ok (.i2b, 1) := by decide +kernel
theorem dX11_tapeNumber_29 : decode mX11_tapeNumber.cd 29 = .ok (.bastore, 1) := by decide +kernel
theorem dX11_tapeNumber_30 : decode mX11_tapeNumber.cd 30 = .ok (.aload_n 0, 1) := by decide +kernel
theorem dX11_tapeNumber_31 : decode mX11_tapeNumber.cd 31 = .ok (.dup, 1) := by decide +kernel
theorem dX11_tapeNumber_32 : decode mX11_tapeNumber.cd 32 = .ok (.getfield 13, 3) := by decide +kernel
theorem dX11_tapeNumber_35 : decode mX11_tapeNumber.cd 35 = .ok (.iconst 1, 1) := by decide +kernel
theorem dX11_tapeNumber_36 : decode mX11_tapeNumber.cd 36 = .ok (.iadd, 1) := by decide +kernel
theorem dX11_tapeNumber_37 : decode mX11_tapeNumber.cd 37 = .ok (.putfield 13, 3) := by decide +kernel
theorem dX11_tapeNumber_40 : decode mX11_tapeNumber.cd 40 = .ok (.iinc 2 (-8), 3) := by decide +kernel
theorem dX11_tapeNumber_43 : decode mX11_tapeNumber.cd 43 = .ok (.goto (-40), 3) := by decide +kernel
theorem dX11_tapeNumber_46 : decode mX11_tapeNumber.cd 46 = .ok (.return_, 1) := by decide +kernel
theorem bX11_tapeNumber_0 {fr M1 M2 b1 b2 : Nat} {Q : RS → Nat → AH → Prop} {h : AH} {l1 : Int} {x2 : AV}   (kk : Wp mX11_tapeNumber (kR fr M1 M2) Q (b1, b2) 3 [zR 1, zI l1, zI 24] [] 137 h) : Wp mX11_tapeNumber (kR fr M1 M2) Q (b1, b2) 0 [zR 1, zI l1, x2] [] 137 h := by
  refine s_fgt (fgt_c (fgt_c (fgt_n _ fgt_0))) ?_
  refine s_bipush dX11_tapeNumber_0 (by decide) ?_
  refine s_istore_n dX11_tapeNumber_2 rfl (by decide) ?_
  exact kk
theorem bX11_tapeNumber_3 {fr M1 M2 b1 b2 : Nat} {Q : RS → Nat → AH → Prop} {h : AH} {l1 l2 : Int}  (r1 : -2147483648 ≤ l2 ∧ l2 < 2147483648 := by omega) (kt : l2 < 0 → Wp mX11_tapeNumber (kR fr M1 M2) Q (b1, b2) 46 [zR 1, zI l1, zI l2] [] 137 h) (kf : 0 ≤ l2 → Wp mX11_tapeNumber (kR fr M1 M2) Q (b1, b2) 7 [zR 1, zI l1, zI l2] [] 137 h) : Wp mX11_tapeNumber (kR fr M1 M2) Q (b1, b2) 3 [zR 1, zI l1, zI l2] [] 137 h := by
  refine s_iload_n (x := l2) dX11_tapeNumber_3 rfl ?_
  exact s_if_lt (tgt := 46) dX11_tapeNumber_4 (by decide) r1 kt kf
theorem bX11_tapeNumber_7 {fr M1 M2 b1 b2 : Nat} {Q : RS → Nat → AH → Prop} {h : AH} {l1 l2 : Int}  (r1 : -2147483648 ≤ h 1 1 ∧ h 1 1 < 2147483648 := by omega) (kt : 700 ≤ h 1 1 → Wp mX11_tapeNumber (kR fr M1 M2) Q (b1, b2) 46 [zR 1, zI l1, zI l2] [] 137 h) (kf : h 1 1 < 700 → Wp mX11_tapeNumber (kR fr M1 M2) Q (b1, b2) 17 [zR 1, zI l1, zI l2] [] 137 h) : Wp mX11_tapeNumber (kR fr M1 M2) Q (b1, b2) 7 [zR 1, zI l1, zI l2] [] 137 h := by
  refine s_aload_n (x := 1) dX11_tapeNumber_7 rfl ?_
  refine s_get (c := 1) dX11_tapeNumber_8 lX11_13 e1 (by decide) ?_
  refine s_sipush dX11_tapeNumber_11 (by decide) ?_
  exact s_icmp_ge (tgt := 46) dX11_tapeNumber_14 (by decide) r1 ⟨by decide, by decide⟩ kt kf
theorem bX11_tapeNumber_17 {fr M1 M2 b1 b2 : Nat} {Q : RS → Nat → AH → Prop} {h : AH} {l1 l2 : Int}  (r1 : 0 ≤ l2 ∧ l2 < 32 := by omega) (r2 : -2147483648 ≤ l1 ∧ l1 < 2147483648 := by omega) (r3 : 0 ≤ h 1 1 ∧ h 1 1 < 700 := by omega) (kk : Wp mX11_tapeNumber (kR fr M1 M2) Q (b1, b2) 3 [zR 1, zI l1, zI (l2 + (-8))] [] 137 (up (up h 2 (h 1 1) (w8 (l1 / 2 ^ l2.toNat))) 1 1 ((h 1 1) + 1))) : Wp mX11_tapeNumber (kR fr M1 M2) Q (b1, b2) 17 [zR 1, zI l1, zI l2] [] 137 h := by
  refine s_aload_n (x := 1) dX11_tapeNumber_17 rfl ?_
  refine s_getFd (c := 1) (d := 2) dX11_tapeNumber_18 lX11_9 e1 (Or.inl rfl) (by decide) (by decide) ?_
  refine s_aload_n (x := 1) dX11_tapeNumber_21 rfl ?_
  refine s_get (c := 1) dX11_tapeNumber_22 lX11_13 e1 (by decide) ?_
  refine s_iload_n (x := l1) dX11_tapeNumber_25 rfl ?_
  refine s_iload_n (x := l2) dX11_tapeNumber_26 rfl ?_
  refine s_ishrN dX11_tapeNumber_27 r2 r1.1 r1.2 ?_
  refine s_i2b dX11_tapeNumber_28 ?_
  refine s_bast (c := 2) (i := h 1 1) dX11_tapeNumber_29 e2 r3.1 r3.2 (w8_ok (l1 / 2 ^ l2.toNat)) ?_
  refine s_aload_n (x := 1) dX11_tapeNumber_30 rfl ?_
  refine s_dup dX11_tapeNumber_31 rfl ?_
  refine s_get (c := 1) dX11_tapeNumber_32 lX11_13 e1 (by decide) ?_
  refine s_iconst dX11_tapeNumber_35 ?_
  refine s_iadd dX11_tapeNumber_36 ?_
  refine s_put (c := 1) dX11_tapeNumber_37 lX11_13 e1 ?_
  refine s_iinc (x := l2) dX11_tapeNumber_40 rfl rfl (by decide) ?_
  exact s_goto (tgt := 3) dX11_tapeNumber_43 (by decide) kk
theorem bX11_tapeNumber_46 {fr M1 M2 b1 b2 : Nat} {Q : RS → Nat → AH → Prop} {h : AH} {x0 x1 x2 : AV}   (hq : Q (.inl none) 137 h) : Wp mX11_tapeNumber (kR fr M1 M2) Q (b1, b2) 46 [x0, x1, x2] [] 137 h := by
  refine s_fgt (fgt_n _ (fgt_n _ (fgt_n _ fgt_0))) ?_
  exact s_return dX11_tapeNumber_46 rfl hq (fun z => by cases z)
theorem dX11_gorge_0 : decode mX11_gorge.cd 0 = .ok (.iload_n 1, 1) := by decide +kernel
theorem dX11_gorge_1 : decode mX11_gorge.cd 1 = .ok (.ifCond .lt 11, 3) := by decide +kernel
theorem dX11_gorge_4 : decode mX11_gorge.cd 4 = .ok (.iload_n 1, 1) := by decide +kernel
theorem dX11_gorge_5 : decode mX11_gorge.cd 5 = .ok (.aload_n 0, 1) := by decide +kernel
theorem dX11_gorge_6 : decode mX11_gorge.cd 6 = .ok (.getfield 13, 3) := by decide +kernel
theorem dX11_gorge_9 : decode mX11_gorge.cd 9 = .ok (.if_icmp .le 11, 3) := by decide +kernel
theorem dX11_gorge_12 : decode mX11_gorge.cd 12 = .ok (.new 115, 3) := by decide +kernel
theorem dX11_gorge_15 : decode mX11_gorge.cd 15 = .ok (.dup, 1) := by decide +kernel
theorem dX11_gorge_16 : decode mX11_gorge.cd 16 = .ok (.invokespecial 117, 3) := by decide +kernel
theorem dX11_gorge_19 : decode mX11_gorge.cd 19 = .ok (.athrow, 1) := by decide +kernel
theorem dX11_gorge_20 : decode mX11_gorge.cd 20 = .ok (.aload_n 0, 1) := by decide +kernel
theorem dX11_gorge_21 : decode mX11_gorge.cd 21 = .ok (.iconst 0, 1) := by decide +kernel
theorem dX11_gorge_22 : decode mX11_gorge.cd 22 = .ok (.putfield 13, 3) := by decide +kernel
theorem dX11_gorge_25 : decode mX11_gorge.cd 25 = .ok (.aload_n 0, 1) := by decide +kernel
theorem dX11_gorge_26 : decode mX11_gorge.cd 26 = .ok (.getfield 51, 3) := by decide +kernel
theorem dX11_gorge_29 : decode mX11_gorge.cd 29 = .ok (.aload_n 0, 1) := by decide +kernel
theorem dX11_gorge_30 : decode mX11_gorge.cd 30 = .ok (.getfield 9, 3) := by decide +kernel
theorem dX11_gorge_33 : decode mX11_gorge.cd 33 = .ok (.iload_n 1, 1) := by decide +kernel
theorem dX11_gorge_34 : decode mX11_gorge.cd 34 = .ok (.aload_n 0, 1) := by decide +kernel
theorem dX11_gorge_35 : decode mX11_gorge.cd 35 = .ok (.getfield 31, 3) := by decide +kernel
theorem dX11_gorge_38 : decode mX11_gorge.cd 38 = .ok (.invokevirtual 118, 3) := by decide +kernel
theorem dX11_gorge_41 : decode mX11_gorge.cd 41 = .ok (.istore_n 2, 1) := by decide +kernel
theorem dX11_gorge_42 : decode mX11_gorge.cd 42 = .ok (.iload_n 2, 1) := by decide +kernel
theorem dX11_gorge_43 : decode mX11_gorge.cd 43 = .ok (.ifCond .eq 26, 3) := by decide +kernel
theorem dX11_gorge_46 : decode mX11_gorge.cd 46 = .ok (.aload_n 0, 1) := by decide +kernel
theorem dX11_gorge_47 : decode mX11_gorge.cd 47 = .ok (.aload_n 0, 1) := by decide +kernel
theorem dX11_gorge_48 : decode mX11_gorge.cd 48 = .ok (.getfield 51, 3) := by decide +kernel
theorem dX11_gorge_51 : decode mX11_gorge.cd 51 = .ok (.getfield 122, 3) := by decide +kernel
theorem dX11_gorge_54 : decode mX11_gorge.cd 54 = .ok (.putfield 17, 3) := by decide +kernel
theorem dX11_gorge_57 : decode mX11_gorge.cd 57 = .ok (.aload_n 0, 1) := by decide +kernel
theorem dX11_gorge_58 : decode mX11_gorge.cd 58 = .ok (.getfield 20, 3) := by decide +kernel
theorem dX11_gorge_61 : decode mX11_gorge.cd 61 = .ok (.iconst 0, 1) := by decide +kernel
theorem dX11_gorge_62 : decode mX11_gorge.cd 62 = .ok (.dup2, 1) := by decide +kernel
theorem dX11_gorge_63 : decode mX11_gorge.cd 63 = .ok (.iaload, 1) := by decide +kernel
theorem dX11_gorge_64 : decode mX11_gorge.cd 64 = .ok (.iconst 1, 1) := by decide +kernel
theorem dX11_gorge_65 : decode mX11_gorge.cd 65 = .ok (.iadd, 1) := by decide +kernel
theorem dX11_gorge_66 : decode mX11_gorge.cd 66 = .ok (.iastore, 1) := by decide +kernel
theorem dX11_gorge_67 : decode mX11_gorge.cd 67 = .ok (.iload_n 2, 1) := by decide +kernel
theorem dX11_gorge_68 : decode mX11_gorge.cd 68 = .ok (.ireturn, 1) := by decide +kernel
theorem dX11_gorge_69 : decode mX11_gorge.cd 69 = .ok (.aload_n 0, 1) := by decide +kernel
theorem dX11_gorge_70 : decode mX11_gorge.cd 70 = .ok (.iconst (-1), 1) := by decide +kernel
theorem dX11_gorge_71 : decode mX11_gorge.cd 71 = .ok (.putfield 17, 3) := by decide +kernel
theorem dX11_gorge_74 : decode mX11_gorge.cd 74 = .ok (.aload_n 0, 1) := by decide +kernel
theorem dX11_gorge_75 : decode mX11_gorge.cd 75 = .ok (.getfield 27, 3) := by decide +kernel
theorem dX11_gorge_78 : decode mX11_gorge.cd 78 = .ok (.astore_n 3, 1) := by decide +kernel
theorem dX11_gorge_79 : decode mX11_gorge.cd 79 = .ok (.aload_n 0, 1) := by decide +kernel
theorem dX11_gorge_80 : decode mX11_gorge.cd 80 = .ok (.aload_n 0, 1) := by decide +kernel
theorem dX11_gorge_81 : decode mX11_gorge.cd 81 = .ok (.getfield 31, 3) := by decide +kernel
theorem dX11_gorge_84 : decode mX11_gorge.cd 84 = .ok (.putfield 27, 3) := by decide +kernel
theorem dX11_gorge_87 : decode mX11_gorge.cd 87 = .ok (.aload_n 0, 1) := by decide +kernel
theorem dX11_gorge_88 : decode mX11_gorge.cd 88 = .ok (.aload_n 3, 1) := by decide +kernel
theorem dX11_gorge_89 : decode mX11_gorge.cd 89 = .ok (.putfield 31, 3) := by decide +kernel
theorem dX11_gorge_92 : decode mX11_gorge.cd 92 = .ok (.aload_n 0, 1) := by decide +kernel
theorem dX11_gorge_93 : decode mX11_gorge.cd 93 = .ok (.getfield 37, 3) := by decide +kernel
theorem dX11_gorge_96 : decode mX11_gorge.cd 96 = .ok (.invokevirtual 123, 3) := by decide +kernel
theorem dX11_gorge_99 : decode mX11_gorge.cd 99 = .ok (.aload_n 0, 1) := by decide +kernel
theorem dX11_gorge_100 : decode mX11_gorge.cd 100 = .ok (.iconst 0, 1) := by decide +kernel
theorem dX11_gorge_101 : decode mX11_gorge.cd 101 = .ok (.putfield 44, 3) := by decide +kernel
theorem dX11_gorge_104 : decode mX11_gorge.cd 104 = .ok (.aload_n 0, 1) := by decide +kernel
theorem dX11_gorge_105 : decode mX11_gorge.cd 105 = .ok (.getfield 58, 3) := by decide +kernel
theorem dX11_gorge_108 : decode mX11_gorge.cd 108 = .ok (.invokevirtual 126, 3) := by decide +kernel
theorem dX11_gorge_111 : decode mX11_gorge.cd 111 = .ok (.aload_n 0, 1) := by decide +kernel
theorem dX11_gorge_112 : decode mX11_gorge.cd 112 = .ok (.getfield 72, 3) := by decide +kernel
theorem dX11_gorge_115 : decode mX11_gorge.cd 115 = .ok (.aload_n 0, 1) := by decide +kernel
theorem dX11_gorge_116 : decode mX11_gorge.cd 116 = .ok (.getfield 27, 3) := by decide +kernel
theorem dX11_gorge_119 : decode mX11_gorge.cd 119 = .ok (.invokevirtual 129, 3) := by decide +kernel
theorem dX11_gorge_122 : decode mX11_gorge.cd 122 = .ok (.aload_n 0, 1) := by decide +kernel
theorem dX11_gorge_123 : decode mX11_gorge.cd 123 = .ok (.getfield 86, 3) := by decide +kernel
theorem dX11_gorge_126 : decode mX11_gorge.cd 126 = .ok (.invokevirtual 133, 3) := by decide +kernel
theorem dX11_gorge_129 : decode mX11_gorge.cd 129 = .ok (.aload_n 0, 1) := by decide +kernel
theorem dX11_gorge_130 : decode mX11_gorge.cd 130 = .ok (.getfield 93, 3) := by decide +kernel
theorem dX11_gorge_133 : decode mX11_gorge.cd 133 = .ok (.invokevirtual 134, 3) := by decide +kernel
theorem dX11_gorge_136 : decode mX11_gorge.cd 136 = .ok (.iconst 0, 1) := by decide +kernel
theorem dX11_gorge_137 : decode mX11_gorge.cd 137 = .ok (.ireturn, 1) := by decide +kernel
theorem bX11_gorge_0 {fr M1 M2 b1 b2 : Nat} {Q : RS → Nat → AH → Prop} {h : AH} {l1 : Int} {x2 x3 : AV}  (r1 : -2147483648 ≤ l1 ∧ l1 < 2147483648 := by omega) (kt : l1 < 0 → Wp mX11_gorge (kR fr M1 M2) Q (b1, b2) 12 [zR 1, zI l1, none, none] [] 137 h) (kf : 0 ≤ l1 → Wp mX11_gorge (kR fr M1 M2) Q (b1, b2) 4 [zR 1, zI l1, none, none] [] 137 h) : Wp mX11_gorge (kR fr M1 M2) Q (b1, b2) 0 [zR 1, zI l1, x2, x3] [] 137 h := by
  refine s_fgt (fgt_c (fgt_c (fgt_n _ (fgt_n _ fgt_0)))) ?_
  refine s_iload_n (x := l1) dX11_gorge_0 rfl ?_
  exact s_if_lt (tgt := 12) dX11_gorge_1 (by decide) r1 kt kf
theorem bX11_gorge_4 {fr M1 M2 b1 b2 : Nat} {Q : RS → Nat → AH → Prop} {h : AH} {l1 : Int} {x2 x3 : AV}  (r1 : -2147483648 ≤ l1 ∧ l1 < 2147483648 := by omega) (r2 : -2147483648 ≤ h 1 1 ∧ h 1 1 < 2147483648 := by omega) (kt : l1 ≤ h 1 1 → Wp mX11_gorge (kR fr M1 M2) Q (b1, b2) 20 [zR 1, zI l1, none, none] [] 137 h) (kf : h 1 1 < l1 → Wp mX11_gorge (kR fr M1 M2) Q (b1, b2) 12 [zR 1, zI l1, none, none] [] 137 h) : Wp mX11_gorge (kR fr M1 M2) Q (b1, b2) 4 [zR 1, zI l1, x2, x3] [] 137 h := by
  refine s_fgt (fgt_c (fgt_c (fgt_n _ (fgt_n _ fgt_0)))) ?_
  refine s_iload_n (x := l1) dX11_gorge_4 rfl ?_
  refine s_aload_n (x := 1) dX11_gorge_5 rfl ?_
  refine s_get (c := 1) dX11_gorge_6 lX11_13 e1 (by decide) ?_
  exact s_icmp_le (tgt := 20) dX11_gorge_9 (by decide) r1 r2 kt kf
theorem bX11_gorge_12 {fr M1 M2 b1 b2 : Nat} {Q : RS → Nat → AH → Prop} {h : AH} {x0 x1 x2 x3 : AV}   (f8 : 8 ≤ fr := by omega) (g1 : 1 ≤ b1 := by omega) (g2 : 6 ≤ b2 := by omega) (hq : Q (.inr "java/lang/IllegalArgumentException") 137 h) : Wp mX11_gorge (kR fr M1 M2) Q (b1, b2) 12 [x0, x1, x2, x3] [] 137 h := by
  refine s_fgt (fgt_n _ (fgt_n _ (fgt_n _ (fgt_n _ fgt_0)))) ?_
  exact s_throw (Or.inl ⟨rfl, rfl, rfl⟩) rfl dX11_gorge_12 dX11_gorge_15 dX11_gorge_16 dX11_gorge_19 rfl rfl rfl f8 (Nat.le_of_ble_eq_true rfl) g1 g2 wd637 wd18 hq
theorem bX11_gorge_20 {fr M1 M2 b1 b2 : Nat} {Q : RS → Nat → AH → Prop} {h : AH} {l1 : Int} {x2 x3 : AV} {R : Int → AH → Prop}   (hS : Sp mX6_read true (fr - 1) 0 0 [zR 46, zR 2, zI l1, zR (h 1 5)] 137 (up h 1 1 0) (rI R)) (hf : 1 ≤ fr := by omega) (kk : ∀ (x : Int) (h' : AH), R x h' → Wp mX11_gorge (kR fr M1 M2) Q (b1, b2) 41 [zR 1, zI l1, none, none] [zI x] 137 h') : Wp mX11_gorge (kR fr M1 M2) Q (b1, b2) 20 [zR 1, zI l1, x2, x3] [] 137 h := by
  refine s_fgt (fgt_c (fgt_c (fgt_n _ (fgt_n _ fgt_0)))) ?_
  refine s_aload_n (x := 1) dX11_gorge_20 rfl ?_
  refine s_iconst dX11_gorge_21 ?_
  refine s_put (c := 1) dX11_gorge_22 lX11_13 e1 ?_
  refine s_aload_n (x := 1) dX11_gorge_25 rfl ?_
  refine s_getFd (c := 1) (d := 46) dX11_gorge_26 lX11_51 e1 (Or.inl rfl) (by decide) (by decide) ?_
  refine s_aload_n (x := 1) dX11_gorge_29 rfl ?_
  refine s_getFd (c := 1) (d := 2) dX11_gorge_30 lX11_9 e1 (Or.inl rfl) (by decide) (by decide) ?_
  refine s_iload_n (x := l1) dX11_gorge_33 rfl ?_
  refine s_aload_n (x := 1) dX11_gorge_34 rfl ?_
  refine s_getR (c := 1) dX11_gorge_35 lX11_31 e1 rfl ?_
  exact s_callV (as := [zR 2, zI l1, zR (h 1 5)]) (st := []) (o := 46) dX11_gorge_38 kX11_118 rfl ⟨6, 12, TX6, e46, rfl, by decide⟩ rfl rfl (Nat.le_of_ble_eq_true rfl) hS (show fr - 1 + 1 ≤ fr by omega) (Nat.zero_le _) (Nat.zero_le _) (fun v n' h' hP _ => by obtain ⟨x, e, rfl, hR⟩ := hP; cases e; exact kk x h' hR) (fun E n' h' _ z => (rI_nt _ _ _ z).elim)
theorem bX11_gorge_41 {fr M1 M2 b1 b2 : Nat} {Q : RS → Nat → AH → Prop} {h : AH} {s0 : Int} {x1 x2 x3 : AV}  (r1 : -2147483648 ≤ s0 ∧ s0 < 2147483648 := by omega) (kt : s0 = 0 → Wp mX11_gorge (kR fr M1 M2) Q (b1, b2) 69 [zR 1, none, zI s0, none] [] 137 h) (kf : ¬ s0 = 0 → Wp mX11_gorge (kR fr M1 M2) Q (b1, b2) 46 [zR 1, none, zI s0, none] [] 137 h) : Wp mX11_gorge (kR fr M1 M2) Q (b1, b2) 41 [zR 1, x1, x2, x3] [zI s0] 137 h := by
  refine s_fgt (fgt_c (fgt_n _ (fgt_n _ (fgt_n _ fgt_0)))) ?_
  refine s_istore_n dX11_gorge_41 rfl (by decide) ?_
  refine s_iload_n (x := s0) dX11_gorge_42 rfl ?_
  exact s_if_eq (tgt := 69) dX11_gorge_43 (by decide) r1 kt kf
theorem bX11_gorge_46 {fr M1 M2 b1 b2 : Nat} {Q : RS → Nat → AH → Prop} {h : AH} {l2 : Int} {x1 x3 : AV}   (hq : Q (.inl (some (zI l2))) 137 (up (up h 1 2 (h 46 11)) 3 0 ((h 3 0) + 1))) : Wp mX11_gorge (kR fr M1 M2) Q (b1, b2) 46 [zR 1, x1, zI l2, x3] [] 137 h := by
  refine s_fgt (fgt_c (fgt_n _ (fgt_c (fgt_n _ fgt_0)))) ?_
  refine s_aload_n (x := 1) dX11_gorge_46 rfl ?_
  refine s_aload_n (x := 1) dX11_gorge_47 rfl ?_
  refine s_getFd (c := 1) (d := 46) dX11_gorge_48 lX11_51 e1 (Or.inl rfl) (by decide) (by decide) ?_
  refine s_get (c := 46) dX11_gorge_51 lX11_122 e46 (by decide) ?_
  refine s_put (c := 1) dX11_gorge_54 lX11_17 e1 ?_
  refine s_aload_n (x := 1) dX11_gorge_57 rfl ?_
  refine s_getFd (c := 1) (d := 3) dX11_gorge_58 lX11_20 e1 (Or.inl rfl) (by decide) (by decide) ?_
  refine s_iconst dX11_gorge_61 ?_
  refine s_dup2 dX11_gorge_62 rfl rfl ?_
  refine s_iald (c := 3) (i := 0) dX11_gorge_63 e3 (by decide) (by decide) ?_
  refine s_iconst dX11_gorge_64 ?_
  refine s_iadd dX11_gorge_65 ?_
  refine s_iast (c := 3) (i := 0) dX11_gorge_66 e3 (by decide) (by decide) ?_
  refine s_iload_n (x := l2) dX11_gorge_67 rfl ?_
  exact s_ireturn dX11_gorge_68 ⟨.int, rfl, rfl⟩ hq (fun z => by cases z)
theorem bX11_gorge_69 {fr M1 M2 b1 b2 : Nat} {Q : RS → Nat → AH → Prop} {h : AH} {x1 x2 x3 : AV} {R : AH → Prop}   (hS : Sp mX8_clear true (fr - 1) 0 0 [zR 34] 137 (up (up (up h 1 2 (-1)) 1 4 (h 1 5)) 1 5 (h 1 4)) (rV R)) (hf : 1 ≤ fr := by omega) (kk : ∀ h' : AH, R h' → Wp mX11_gorge (kR fr M1 M2) Q (b1, b2) 99 [zR 1, none, none, zR (h 1 4)] [] 137 h') : Wp mX11_gorge (kR fr M1 M2) Q (b1, b2) 69 [zR 1, x1, x2, x3] [] 137 h := by
  refine s_fgt (fgt_c (fgt_n _ (fgt_n _ (fgt_n _ fgt_0)))) ?_
  refine s_aload_n (x := 1) dX11_gorge_69 rfl ?_
  refine s_iconst dX11_gorge_70 ?_
  refine s_put (c := 1) dX11_gorge_71 lX11_17 e1 ?_
  refine s_aload_n (x := 1) dX11_gorge_74 rfl ?_
  refine s_getR (c := 1) dX11_gorge_75 lX11_27 e1 rfl ?_
  refine s_astore_n dX11_gorge_78 rfl (by decide) ?_
  refine s_aload_n (x := 1) dX11_gorge_79 rfl ?_
  refine s_aload_n (x := 1) dX11_gorge_80 rfl ?_
  refine s_getR (c := 1) dX11_gorge_81 lX11_31 e1 rfl ?_
  refine s_putR (c := 1) dX11_gorge_84 lX11_27 e1 ?_
  refine s_aload_n (x := 1) dX11_gorge_87 rfl ?_
  refine s_aload_n (x := h 1 4) dX11_gorge_88 rfl ?_
  refine s_putR (c := 1) dX11_gorge_89 lX11_31 e1 ?_
  refine s_aload_n (x := 1) dX11_gorge_92 rfl ?_
  refine s_getFd (c := 1) (d := 34) dX11_gorge_93 lX11_37 e1 (Or.inl rfl) (by decide) (by decide) ?_
  exact s_callV (as := []) (st := []) (o := 34) dX11_gorge_96 kX11_123 rfl ⟨8, 8, TX8, e34, rfl, by decide⟩ rfl rfl (Nat.le_of_ble_eq_true rfl) hS (show fr - 1 + 1 ≤ fr by omega) (Nat.zero_le _) (Nat.zero_le _) (fun v n' h' hP _ => by obtain ⟨e, rfl, hR⟩ := hP; cases e; exact kk h' hR) (fun E n' h' _ z => (rV_nt _ _ _ z).elim)
theorem bX11_gorge_99 {fr M1 M2 b1 b2 : Nat} {Q : RS → Nat → AH → Prop} {h : AH} {x1 x2 x3 : AV} {R : AH → Prop}   (hS : Sp mX7_forget true (fr - 1) 0 0 [zR 47] 137 (up h 1 8 0) (rV R)) (hf : 1 ≤ fr := by omega) (kk : ∀ h' : AH, R h' → Wp mX11_gorge (kR fr M1 M2) Q (b1, b2) 111 [zR 1, none, none, none] [] 137 h') : Wp mX11_gorge (kR fr M1 M2) Q (b1, b2) 99 [zR 1, x1, x2, x3] [] 137 h := by
  refine s_fgt (fgt_c (fgt_n _ (fgt_n _ (fgt_n _ fgt_0)))) ?_
  refine s_aload_n (x := 1) dX11_gorge_99 rfl ?_
  refine s_iconst dX11_gorge_100 ?_
  refine s_putZ (c := 1) dX11_gorge_101 lX11_44 e1 (by decide) ?_
  refine s_aload_n (x := 1) dX11_gorge_104 rfl ?_
  refine s_getFd (c := 1) (d := 47) dX11_gorge_105 lX11_58 e1 (Or.inl rfl) (by decide) (by decide) ?_
  exact s_callV (as := []) (st := []) (o := 47) dX11_gorge_108 kX11_126 rfl ⟨7, 9, TX7, e47, rfl, by decide⟩ rfl rfl (Nat.le_of_ble_eq_true rfl) hS (show fr - 1 + 1 ≤ fr by omega) (Nat.zero_le _) (Nat.zero_le _) (fun v n' h' hP _ => by obtain ⟨e, rfl, hR⟩ := hP; cases e; exact kk h' hR) (fun E n' h' _ z => (rV_nt _ _ _ z).elim)
theorem bX11_gorge_111 {fr M1 M2 b1 b2 : Nat} {Q : RS → Nat → AH → Prop} {h : AH} {x1 x2 x3 : AV} {R : AH → Prop}   (hS : Sp mX10_adopt true (fr - 1) 0 0 [zR 55, zR (h 1 4)] 137 h (rV R)) (hf : 1 ≤ fr := by omega) (kk : ∀ h' : AH, R h' → Wp mX11_gorge (kR fr M1 M2) Q (b1, b2) 122 [zR 1, none, none, none] [] 137 h') : Wp mX11_gorge (kR fr M1 M2) Q (b1, b2) 111 [zR 1, x1, x2, x3] [] 137 h := by
  refine s_fgt (fgt_c (fgt_n _ (fgt_n _ (fgt_n _ fgt_0)))) ?_
  refine s_aload_n (x := 1) dX11_gorge_111 rfl ?_
  refine s_getFd (c := 1) (d := 55) dX11_gorge_112 lX11_72 e1 (Or.inl rfl) (by decide) (by decide) ?_
  refine s_aload_n (x := 1) dX11_gorge_115 rfl ?_
  refine s_getR (c := 1) dX11_gorge_116 lX11_27 e1 rfl ?_
  exact s_callV (as := [zR (h 1 4)]) (st := []) (o := 55) dX11_gorge_119 kX11_129 rfl ⟨10, 16, TX10, e55, rfl, by decide⟩ rfl rfl (Nat.le_of_ble_eq_true rfl) hS (show fr - 1 + 1 ≤ fr by omega) (Nat.zero_le _) (Nat.zero_le _) (fun v n' h' hP _ => by obtain ⟨e, rfl, hR⟩ := hP; cases e; exact kk h' hR) (fun E n' h' _ z => (rV_nt _ _ _ z).elim)
theorem bX11_gorge_122 {fr M1 M2 b1 b2 : Nat} {Q : RS → Nat → AH → Prop} {h : AH} {x1 x2 x3 : AV} {R : AH → Prop}   (hS : Sp mX3_forget true (fr - 1) 0 0 [zR 82] 137 h (rV R)) (hf : 1 ≤ fr := by omega) (kk : ∀ h' : AH, R h' → Wp mX11_gorge (kR fr M1 M2) Q (b1, b2) 129 [zR 1, none, none, none] [] 137 h') : Wp mX11_gorge (kR fr M1 M2) Q (b1, b2) 122 [zR 1, x1, x2, x3] [] 137 h := by
  refine s_fgt (fgt_c (fgt_n _ (fgt_n _ (fgt_n _ fgt_0)))) ?_
  refine s_aload_n (x := 1) dX11_gorge_122 rfl ?_
  refine s_getFd (c := 1) (d := 82) dX11_gorge_123 lX11_86 e1 (Or.inl rfl) (by decide) (by decide) ?_
  exact s_callV (as := []) (st := []) (o := 82) dX11_gorge_126 kX11_133 rfl ⟨3, 8, TX3, e82, rfl, by decide⟩ rfl rfl (Nat.le_of_ble_eq_true rfl) hS (show fr - 1 + 1 ≤ fr by omega) (Nat.zero_le _) (Nat.zero_le _) (fun v n' h' hP _ => by obtain ⟨e, rfl, hR⟩ := hP; cases e; exact kk h' hR) (fun E n' h' _ z => (rV_nt _ _ _ z).elim)
theorem bX11_gorge_129 {fr M1 M2 b1 b2 : Nat} {Q : RS → Nat → AH → Prop} {h : AH} {x1 x2 x3 : AV} {R : AH → Prop}   (hS : Sp mX9_forget true (fr - 1) 0 0 [zR 88] 137 h (rV R)) (hf : 1 ≤ fr := by omega) (kk : ∀ h' : AH, R h' → Wp mX11_gorge (kR fr M1 M2) Q (b1, b2) 136 [zR 1, none, none, none] [] 137 h') : Wp mX11_gorge (kR fr M1 M2) Q (b1, b2) 129 [zR 1, x1, x2, x3] [] 137 h := by
  refine s_fgt (fgt_c (fgt_n _ (fgt_n _ (fgt_n _ fgt_0)))) ?_
  refine s_aload_n (x := 1) dX11_gorge_129 rfl ?_
  refine s_getFd (c := 1) (d := 88) dX11_gorge_130 lX11_93 e1 (Or.inl rfl) (by decide) (by decide) ?_
  exact s_callV (as := []) (st := []) (o := 88) dX11_gorge_133 kX11_134 rfl ⟨9, 9, TX9, e88, rfl, by decide⟩ rfl rfl (Nat.le_of_ble_eq_true rfl) hS (show fr - 1 + 1 ≤ fr by omega) (Nat.zero_le _) (Nat.zero_le _) (fun v n' h' hP _ => by obtain ⟨e, rfl, hR⟩ := hP; cases e; exact kk h' hR) (fun E n' h' _ z => (rV_nt _ _ _ z).elim)
theorem bX11_gorge_136 {fr M1 M2 b1 b2 : Nat} {Q : RS → Nat → AH → Prop} {h : AH} {x0 x1 x2 x3 : AV}   (hq : Q (.inl (some (zI 0))) 137 h) : Wp mX11_gorge (kR fr M1 M2) Q (b1, b2) 136 [x0, x1, x2, x3] [] 137 h := by
  refine s_fgt (fgt_n _ (fgt_n _ (fgt_n _ (fgt_n _ fgt_0)))) ?_
  refine s_iconst dX11_gorge_136 ?_
  exact s_ireturn dX11_gorge_137 ⟨.int, rfl, rfl⟩ hq (fun z => by cases z)
theorem dX11_fault_0 : decode mX11_fault.cd 0 = .ok (.aload_n 0, 1) := by decide +kernel
theorem dX11_fault_1 : decode mX11_fault.cd 1 = .ok (.getfield 17, 3) := by decide +kernel
theorem dX11_fault_4 : decode mX11_fault.cd 4 = .ok (.ireturn, 1) := by decide +kernel
theorem bX11_fault_0 {fr M1 M2 b1 b2 : Nat} {Q : RS → Nat → AH → Prop} {h : AH}   (hq : Q (.inl (some (zI (h 1 2)))) 137 h) : Wp mX11_fault (kR fr M1 M2) Q (b1, b2) 0 [zR 1] [] 137 h := by
  refine s_aload_n (x := 1) dX11_fault_0 rfl ?_
  refine s_get (c := 1) dX11_fault_1 lX11_17 e1 (by decide) ?_
  exact s_ireturn dX11_fault_4 ⟨.int, rfl, rfl⟩ hq (fun z => by cases z)
theorem dX11_count_0 : decode mX11_count.cd 0 = .ok (.iload_n 1, 1) := by decide +kernel
theorem dX11_count_1 : decode mX11_count.cd 1 = .ok (.tableswitch 130 0 10 #[59, 67, 75, 83, 91, 99, 107, 112, 112, 112, 122], 59) := by decide +kernel
theorem dX11_count_60 : decode mX11_count.cd 60 = .ok (.aload_n 0, 1) := by decide +kernel
theorem dX11_count_61 : decode mX11_count.cd 61 = .ok (.getfield 27, 3) := by decide +kernel
theorem dX11_count_64 : decode mX11_count.cd 64 = .ok (.getfield 135, 3) := by decide +kernel
theorem dX11_count_67 : decode mX11_count.cd 67 = .ok (.ireturn, 1) := by decide +kernel
theorem dX11_count_68 : decode mX11_count.cd 68 = .ok (.aload_n 0, 1) := by decide +kernel
theorem dX11_count_69 : decode mX11_count.cd 69 = .ok (.getfield 27, 3) := by decide +kernel
theorem dX11_count_72 : decode mX11_count.cd 72 = .ok (.getfield 138, 3) := by decide +kernel
theorem dX11_count_75 : decode mX11_count.cd 75 = .ok (.ireturn, 1) := by decide +kernel
theorem dX11_count_76 : decode mX11_count.cd 76 = .ok (.aload_n 0, 1) := by decide +kernel
theorem dX11_count_77 : decode mX11_count.cd 77 = .ok (.getfield 27, 3) := by decide +kernel
theorem dX11_count_80 : decode mX11_count.cd 80 = .ok (.getfield 141, 3) := by decide +kernel
theorem dX11_count_83 : decode mX11_count.cd 83 = .ok (.ireturn, 1) := by decide +kernel
theorem dX11_count_84 : decode mX11_count.cd 84 = .ok (.aload_n 0, 1) := by decide +kernel
theorem dX11_count_85 : decode mX11_count.cd 85 = .ok (.getfield 27, 3) := by decide +kernel
theorem dX11_count_88 : decode mX11_count.cd 88 = .ok (.getfield 144, 3) := by decide +kernel
theorem dX11_count_91 : decode mX11_count.cd 91 = .ok (.ireturn, 1) := by decide +kernel
theorem dX11_count_92 : decode mX11_count.cd 92 = .ok (.aload_n 0, 1) := by decide +kernel
theorem dX11_count_93 : decode mX11_count.cd 93 = .ok (.getfield 37, 3) := by decide +kernel
theorem dX11_count_96 : decode mX11_count.cd 96 = .ok (.getfield 147, 3) := by decide +kernel
theorem dX11_count_99 : decode mX11_count.cd 99 = .ok (.ireturn, 1) := by decide +kernel
theorem dX11_count_100 : decode mX11_count.cd 100 = .ok (.aload_n 0, 1) := by decide +kernel
theorem dX11_count_101 : decode mX11_count.cd 101 = .ok (.getfield 37, 3) := by decide +kernel
theorem dX11_count_104 : decode mX11_count.cd 104 = .ok (.getfield 150, 3) := by decide +kernel
theorem dX11_count_107 : decode mX11_count.cd 107 = .ok (.ireturn, 1) := by decide +kernel
theorem dX11_count_108 : decode mX11_count.cd 108 = .ok (.aload_n 0, 1) := by decide +kernel
theorem dX11_count_109 : decode mX11_count.cd 109 = .ok (.getfield 13, 3) := by decide +kernel
theorem dX11_count_112 : decode mX11_count.cd 112 = .ok (.ireturn, 1) := by decide +kernel
theorem dX11_count_113 : decode mX11_count.cd 113 = .ok (.aload_n 0, 1) := by decide +kernel
theorem dX11_count_114 : decode mX11_count.cd 114 = .ok (.getfield 20, 3) := by decide +kernel
theorem dX11_count_117 : decode mX11_count.cd 117 = .ok (.iload_n 1, 1) := by decide +kernel
theorem dX11_count_118 : decode mX11_count.cd 118 = .ok (.bipush 7, 2) := by decide +kernel
theorem dX11_count_120 : decode mX11_count.cd 120 = .ok (.isub, 1) := by decide +kernel
theorem dX11_count_121 : decode mX11_count.cd 121 = .ok (.iaload, 1) := by decide +kernel
theorem dX11_count_122 : decode mX11_count.cd 122 = .ok (.ireturn, 1) := by decide +kernel
theorem dX11_count_123 : decode mX11_count.cd 123 = .ok (.aload_n 0, 1) := by decide +kernel
theorem dX11_count_124 : decode mX11_count.cd 124 = .ok (.getfield 72, 3) := by decide +kernel
theorem dX11_count_127 : decode mX11_count.cd 127 = .ok (.getfield 153, 3) := by decide +kernel
theorem dX11_count_130 : decode mX11_count.cd 130 = .ok (.ireturn, 1) := by decide +kernel
theorem dX11_count_131 : decode mX11_count.cd 131 = .ok (.new 156, 3) := by decide +kernel
theorem dX11_count_134 : decode mX11_count.cd 134 = .ok (.dup, 1) := by decide +kernel
theorem dX11_count_135 : decode mX11_count.cd 135 = .ok (.invokespecial 158, 3) := by decide +kernel
theorem dX11_count_138 : decode mX11_count.cd 138 = .ok (.athrow, 1) := by decide +kernel
theorem bX11_count_0 {fr M1 M2 b1 b2 : Nat} {Q : RS → Nat → AH → Prop} {h : AH} {l1 : Int}  (r1 : -2147483648 ≤ l1 ∧ l1 < 2147483648 := by omega) (k0 : l1 = 0 → Wp mX11_count (kR fr M1 M2) Q (b1, b2) 60 [zR 1, zI l1] [] 137 h) (k1 : l1 = 1 → Wp mX11_count (kR fr M1 M2) Q (b1, b2) 68 [zR 1, zI l1] [] 137 h) (k2 : l1 = 2 → Wp mX11_count (kR fr M1 M2) Q (b1, b2) 76 [zR 1, zI l1] [] 137 h) (k3 : l1 = 3 → Wp mX11_count (kR fr M1 M2) Q (b1, b2) 84 [zR 1, zI l1] [] 137 h) (k4 : l1 = 4 → Wp mX11_count (kR fr M1 M2) Q (b1, b2) 92 [zR 1, zI l1] [] 137 h) (k5 : l1 = 5 → Wp mX11_count (kR fr M1 M2) Q (b1, b2) 100 [zR 1, zI l1] [] 137 h) (k6 : l1 = 6 → Wp mX11_count (kR fr M1 M2) Q (b1, b2) 108 [zR 1, zI l1] [] 137 h) (k7 : l1 = 7 → Wp mX11_count (kR fr M1 M2) Q (b1, b2) 113 [zR 1, zI l1] [] 137 h) (k8 : l1 = 8 → Wp mX11_count (kR fr M1 M2) Q (b1, b2) 113 [zR 1, zI l1] [] 137 h) (k9 : l1 = 9 → Wp mX11_count (kR fr M1 M2) Q (b1, b2) 113 [zR 1, zI l1] [] 137 h) (k10 : l1 = 10 → Wp mX11_count (kR fr M1 M2) Q (b1, b2) 123 [zR 1, zI l1] [] 137 h) (kd : l1 < 0 ∨ 10 < l1 → Wp mX11_count (kR fr M1 M2) Q (b1, b2) 131 [zR 1, zI l1] [] 137 h) : Wp mX11_count (kR fr M1 M2) Q (b1, b2) 0 [zR 1, zI l1] [] 137 h := by
  refine s_iload_n (x := l1) dX11_count_0 rfl ?_
  rcases (show (l1 < 0 ∨ 10 < l1) ∨ l1 = 0 ∨ l1 = 1 ∨ l1 = 2 ∨ l1 = 3 ∨ l1 = 4 ∨ l1 = 5 ∨ l1 = 6 ∨ l1 = 7 ∨ l1 = 8 ∨ l1 = 9 ∨ l1 = 10 by omega) with z | z | z | z | z | z | z | z | z | z | z | z
  · exact s_tableOut (tgt := 131) dX11_count_1 r1 z (by decide) (kd z)
  · exact s_tableIn (tgt := 60) (off := 59) dX11_count_1 r1 (by omega) (by omega) (by rw [z]; rfl) (by decide) (k0 z)
  · exact s_tableIn (tgt := 68) (off := 67) dX11_count_1 r1 (by omega) (by omega) (by rw [z]; rfl) (by decide) (k1 z)
  · exact s_tableIn (tgt := 76) (off := 75) dX11_count_1 r1 (by omega) (by omega) (by rw [z]; rfl) (by decide) (k2 z)
  · exact s_tableIn (tgt := 84) (off := 83) dX11_count_1 r1 (by omega) (by omega) (by rw [z]; rfl) (by decide) (k3 z)
  · exact s_tableIn (tgt := 92) (off := 91) dX11_count_1 r1 (by omega) (by omega) (by rw [z]; rfl) (by decide) (k4 z)
  · exact s_tableIn (tgt := 100) (off := 99) dX11_count_1 r1 (by omega) (by omega) (by rw [z]; rfl) (by decide) (k5 z)
  · exact s_tableIn (tgt := 108) (off := 107) dX11_count_1 r1 (by omega) (by omega) (by rw [z]; rfl) (by decide) (k6 z)
  · exact s_tableIn (tgt := 113) (off := 112) dX11_count_1 r1 (by omega) (by omega) (by rw [z]; rfl) (by decide) (k7 z)
  · exact s_tableIn (tgt := 113) (off := 112) dX11_count_1 r1 (by omega) (by omega) (by rw [z]; rfl) (by decide) (k8 z)
  · exact s_tableIn (tgt := 113) (off := 112) dX11_count_1 r1 (by omega) (by omega) (by rw [z]; rfl) (by decide) (k9 z)
  · exact s_tableIn (tgt := 123) (off := 122) dX11_count_1 r1 (by omega) (by omega) (by rw [z]; rfl) (by decide) (k10 z)
theorem bX11_count_60 {fr M1 M2 b1 b2 : Nat} {Q : RS → Nat → AH → Prop} {h : AH} {x1 : AV} (c1 : cel 137 (h 1 4) (2, 21) := by first | assumption | omega)  (hq : Q (.inl (some (zI (h (h 1 4) 0)))) 137 h) : Wp mX11_count (kR fr M1 M2) Q (b1, b2) 60 [zR 1, x1] [] 137 h := by
  refine s_fgt (fgt_c (fgt_n _ fgt_0)) ?_
  refine s_aload_n (x := 1) dX11_count_60 rfl ?_
  refine s_getR (c := 1) dX11_count_61 lX11_27 e1 rfl ?_
  refine s_get (c := h 1 4) dX11_count_64 lX11_135 c1 (by decide) ?_
  exact s_ireturn dX11_count_67 ⟨.int, rfl, rfl⟩ hq (fun z => by cases z)
theorem bX11_count_68 {fr M1 M2 b1 b2 : Nat} {Q : RS → Nat → AH → Prop} {h : AH} {x1 : AV} (c1 : cel 137 (h 1 4) (2, 21) := by first | assumption | omega)  (hq : Q (.inl (some (zI (h (h 1 4) 1)))) 137 h) : Wp mX11_count (kR fr M1 M2) Q (b1, b2) 68 [zR 1, x1] [] 137 h := by
  refine s_fgt (fgt_c (fgt_n _ fgt_0)) ?_
  refine s_aload_n (x := 1) dX11_count_68 rfl ?_
  refine s_getR (c := 1) dX11_count_69 lX11_27 e1 rfl ?_
  refine s_get (c := h 1 4) dX11_count_72 lX11_138 c1 (by decide) ?_
  exact s_ireturn dX11_count_75 ⟨.int, rfl, rfl⟩ hq (fun z => by cases z)
theorem bX11_count_76 {fr M1 M2 b1 b2 : Nat} {Q : RS → Nat → AH → Prop} {h : AH} {x1 : AV} (c1 : cel 137 (h 1 4) (2, 21) := by first | assumption | omega)  (hq : Q (.inl (some (zI (h (h 1 4) 2)))) 137 h) : Wp mX11_count (kR fr M1 M2) Q (b1, b2) 76 [zR 1, x1] [] 137 h := by
  refine s_fgt (fgt_c (fgt_n _ fgt_0)) ?_
  refine s_aload_n (x := 1) dX11_count_76 rfl ?_
  refine s_getR (c := 1) dX11_count_77 lX11_27 e1 rfl ?_
  refine s_get (c := h 1 4) dX11_count_80 lX11_141 c1 (by decide) ?_
  exact s_ireturn dX11_count_83 ⟨.int, rfl, rfl⟩ hq (fun z => by cases z)
theorem bX11_count_84 {fr M1 M2 b1 b2 : Nat} {Q : RS → Nat → AH → Prop} {h : AH} {x1 : AV} (c1 : cel 137 (h 1 4) (2, 21) := by first | assumption | omega)  (hq : Q (.inl (some (zI (h (h 1 4) 3)))) 137 h) : Wp mX11_count (kR fr M1 M2) Q (b1, b2) 84 [zR 1, x1] [] 137 h := by
  refine s_fgt (fgt_c (fgt_n _ fgt_0)) ?_
  refine s_aload_n (x := 1) dX11_count_84 rfl ?_
  refine s_getR (c := 1) dX11_count_85 lX11_27 e1 rfl ?_
  refine s_get (c := h 1 4) dX11_count_88 lX11_144 c1 (by decide) ?_
  exact s_ireturn dX11_count_91 ⟨.int, rfl, rfl⟩ hq (fun z => by cases z)
theorem bX11_count_92 {fr M1 M2 b1 b2 : Nat} {Q : RS → Nat → AH → Prop} {h : AH} {x1 : AV}   (hq : Q (.inl (some (zI (h 34 1)))) 137 h) : Wp mX11_count (kR fr M1 M2) Q (b1, b2) 92 [zR 1, x1] [] 137 h := by
  refine s_fgt (fgt_c (fgt_n _ fgt_0)) ?_
  refine s_aload_n (x := 1) dX11_count_92 rfl ?_
  refine s_getFd (c := 1) (d := 34) dX11_count_93 lX11_37 e1 (Or.inl rfl) (by decide) (by decide) ?_
  refine s_get (c := 34) dX11_count_96 lX11_147 e34 (by decide) ?_
  exact s_ireturn dX11_count_99 ⟨.int, rfl, rfl⟩ hq (fun z => by cases z)
theorem bX11_count_100 {fr M1 M2 b1 b2 : Nat} {Q : RS → Nat → AH → Prop} {h : AH} {x1 : AV}   (hq : Q (.inl (some (zI (h 34 3)))) 137 h) : Wp mX11_count (kR fr M1 M2) Q (b1, b2) 100 [zR 1, x1] [] 137 h := by
  refine s_fgt (fgt_c (fgt_n _ fgt_0)) ?_
  refine s_aload_n (x := 1) dX11_count_100 rfl ?_
  refine s_getFd (c := 1) (d := 34) dX11_count_101 lX11_37 e1 (Or.inl rfl) (by decide) (by decide) ?_
  refine s_get (c := 34) dX11_count_104 lX11_150 e34 (by decide) ?_
  exact s_ireturn dX11_count_107 ⟨.int, rfl, rfl⟩ hq (fun z => by cases z)
theorem bX11_count_108 {fr M1 M2 b1 b2 : Nat} {Q : RS → Nat → AH → Prop} {h : AH} {x1 : AV}   (hq : Q (.inl (some (zI (h 1 1)))) 137 h) : Wp mX11_count (kR fr M1 M2) Q (b1, b2) 108 [zR 1, x1] [] 137 h := by
  refine s_fgt (fgt_c (fgt_n _ fgt_0)) ?_
  refine s_aload_n (x := 1) dX11_count_108 rfl ?_
  refine s_get (c := 1) dX11_count_109 lX11_13 e1 (by decide) ?_
  exact s_ireturn dX11_count_112 ⟨.int, rfl, rfl⟩ hq (fun z => by cases z)
theorem bX11_count_113 {fr M1 M2 b1 b2 : Nat} {Q : RS → Nat → AH → Prop} {h : AH} {l1 : Int}  (r1 : 0 ≤ l1 - 7 ∧ l1 - 7 < 3 := by omega) (hq : Q (.inl (some (zI (h 3 (l1 - 7))))) 137 h) : Wp mX11_count (kR fr M1 M2) Q (b1, b2) 113 [zR 1, zI l1] [] 137 h := by
  refine s_aload_n (x := 1) dX11_count_113 rfl ?_
  refine s_getFd (c := 1) (d := 3) dX11_count_114 lX11_20 e1 (Or.inl rfl) (by decide) (by decide) ?_
  refine s_iload_n (x := l1) dX11_count_117 rfl ?_
  refine s_bipush dX11_count_118 (by decide) ?_
  refine s_isub dX11_count_120 ?_
  refine s_iald (c := 3) (i := l1 - 7) dX11_count_121 e3 r1.1 r1.2 ?_
  exact s_ireturn dX11_count_122 ⟨.int, rfl, rfl⟩ hq (fun z => by cases z)
theorem bX11_count_123 {fr M1 M2 b1 b2 : Nat} {Q : RS → Nat → AH → Prop} {h : AH} {x1 : AV}   (hq : Q (.inl (some (zI (h 55 1)))) 137 h) : Wp mX11_count (kR fr M1 M2) Q (b1, b2) 123 [zR 1, x1] [] 137 h := by
  refine s_fgt (fgt_c (fgt_n _ fgt_0)) ?_
  refine s_aload_n (x := 1) dX11_count_123 rfl ?_
  refine s_getFd (c := 1) (d := 55) dX11_count_124 lX11_72 e1 (Or.inl rfl) (by decide) (by decide) ?_
  refine s_get (c := 55) dX11_count_127 lX11_153 e55 (by decide) ?_
  exact s_ireturn dX11_count_130 ⟨.int, rfl, rfl⟩ hq (fun z => by cases z)
theorem bX11_count_131 {fr M1 M2 b1 b2 : Nat} {Q : RS → Nat → AH → Prop} {h : AH} {x0 x1 : AV}   (f8 : 8 ≤ fr := by omega) (g1 : 1 ≤ b1 := by omega) (g2 : 6 ≤ b2 := by omega) (hq : Q (.inr "java/util/NoSuchElementException") 137 h) : Wp mX11_count (kR fr M1 M2) Q (b1, b2) 131 [x0, x1] [] 137 h := by
  refine s_fgt (fgt_n _ (fgt_n _ fgt_0)) ?_
  exact s_throw (Or.inr ⟨rfl, rfl, rfl⟩) rfl dX11_count_131 dX11_count_134 dX11_count_135 dX11_count_138 rfl rfl rfl f8 (Nat.le_of_ble_eq_true rfl) g1 g2 wd860 wd24 hq
theorem dX11_wall_0 : decode mX11_wall.cd 0 = .ok (.aload_n 0, 1) := by decide +kernel
theorem dX11_wall_1 : decode mX11_wall.cd 1 = .ok (.iload_n 1, 1) := by decide +kernel
theorem dX11_wall_2 : decode mX11_wall.cd 2 = .ok (.invokevirtual 159, 3) := by decide +kernel
theorem dX11_wall_5 : decode mX11_wall.cd 5 = .ok (.iload_n 2, 1) := by decide +kernel
theorem dX11_wall_6 : decode mX11_wall.cd 6 = .ok (.tableswitch 82 0 5 #[38, 38, 38, 52, 62, 72], 38) := by decide +kernel
theorem dX11_wall_44 : decode mX11_wall.cd 44 = .ok (.aload_n 0, 1) := by decide +kernel
theorem dX11_wall_45 : decode mX11_wall.cd 45 = .ok (.getfield 27, 3) := by decide +kernel
theorem dX11_wall_48 : decode mX11_wall.cd 48 = .ok (.getfield 162, 3) := by decide +kernel
theorem dX11_wall_51 : decode mX11_wall.cd 51 = .ok (.iload_n 1, 1) := by decide +kernel
theorem dX11_wall_52 : decode mX11_wall.cd 52 = .ok (.iconst 3, 1) := by decide +kernel
theorem dX11_wall_53 : decode mX11_wall.cd 53 = .ok (.imul, 1) := by decide +kernel
theorem dX11_wall_54 : decode mX11_wall.cd 54 = .ok (.iload_n 2, 1) := by decide +kernel
theorem dX11_wall_55 : decode mX11_wall.cd 55 = .ok (.iadd, 1) := by decide +kernel
theorem dX11_wall_56 : decode mX11_wall.cd 56 = .ok (.iaload, 1) := by decide +kernel
theorem dX11_wall_57 : decode mX11_wall.cd 57 = .ok (.ireturn, 1) := by decide +kernel
theorem dX11_wall_58 : decode mX11_wall.cd 58 = .ok (.aload_n 0, 1) := by decide +kernel
theorem dX11_wall_59 : decode mX11_wall.cd 59 = .ok (.getfield 27, 3) := by decide +kernel
theorem dX11_wall_62 : decode mX11_wall.cd 62 = .ok (.getfield 165, 3) := by decide +kernel
theorem dX11_wall_65 : decode mX11_wall.cd 65 = .ok (.iload_n 1, 1) := by decide +kernel
theorem dX11_wall_66 : decode mX11_wall.cd 66 = .ok (.iaload, 1) := by decide +kernel
theorem dX11_wall_67 : decode mX11_wall.cd 67 = .ok (.ireturn, 1) := by decide +kernel
theorem dX11_wall_68 : decode mX11_wall.cd 68 = .ok (.aload_n 0, 1) := by decide +kernel
theorem dX11_wall_69 : decode mX11_wall.cd 69 = .ok (.getfield 27, 3) := by decide +kernel
theorem dX11_wall_72 : decode mX11_wall.cd 72 = .ok (.getfield 168, 3) := by decide +kernel
theorem dX11_wall_75 : decode mX11_wall.cd 75 = .ok (.iload_n 1, 1) := by decide +kernel
theorem dX11_wall_76 : decode mX11_wall.cd 76 = .ok (.iaload, 1) := by decide +kernel
theorem dX11_wall_77 : decode mX11_wall.cd 77 = .ok (.ireturn, 1) := by decide +kernel
theorem dX11_wall_78 : decode mX11_wall.cd 78 = .ok (.aload_n 0, 1) := by decide +kernel
theorem dX11_wall_79 : decode mX11_wall.cd 79 = .ok (.getfield 27, 3) := by decide +kernel
theorem dX11_wall_82 : decode mX11_wall.cd 82 = .ok (.getfield 171, 3) := by decide +kernel
theorem dX11_wall_85 : decode mX11_wall.cd 85 = .ok (.iload_n 1, 1) := by decide +kernel
theorem dX11_wall_86 : decode mX11_wall.cd 86 = .ok (.iaload, 1) := by decide +kernel
theorem dX11_wall_87 : decode mX11_wall.cd 87 = .ok (.ireturn, 1) := by decide +kernel
theorem dX11_wall_88 : decode mX11_wall.cd 88 = .ok (.new 156, 3) := by decide +kernel
theorem dX11_wall_91 : decode mX11_wall.cd 91 = .ok (.dup, 1) := by decide +kernel
theorem dX11_wall_92 : decode mX11_wall.cd 92 = .ok (.invokespecial 158, 3) := by decide +kernel
theorem dX11_wall_95 : decode mX11_wall.cd 95 = .ok (.athrow, 1) := by decide +kernel
theorem bX11_wall_0 {fr M1 M2 b1 b2 : Nat} {Q : RS → Nat → AH → Prop} {h : AH} {l1 l2 : Int} {R : AH → Prop} {X : String → AH → Prop}   (hS : Sp mX11_needWall true (fr - 1) 1 6 [zR 1, zI l1] 137 h (rVx R X)) (hf : 1 ≤ fr := by omega) (g1 : 1 ≤ b1 := by omega) (g2 : 6 ≤ b2 := by omega) (kk : ∀ h' : AH, R h' → Wp mX11_wall (kR fr M1 M2) Q (b1 - 1, b2 - 6) 5 [zR 1, zI l1, zI l2] [] 137 h') (kx : ∀ (E : String) (h' : AH), X E h' → Q (.inr E) 137 h') : Wp mX11_wall (kR fr M1 M2) Q (b1, b2) 0 [zR 1, zI l1, zI l2] [] 137 h := by
  refine s_aload_n (x := 1) dX11_wall_0 rfl ?_
  refine s_iload_n (x := l1) dX11_wall_1 rfl ?_
  exact s_callV (as := [zI l1]) (st := []) (o := 1) dX11_wall_2 kX11_159 rfl ⟨11, 18, TX11, e1, rfl, by decide⟩ rfl rfl (Nat.le_of_ble_eq_true rfl) hS (show fr - 1 + 1 ≤ fr by omega) g1 g2 (fun v n' h' hP _ => by
    obtain ⟨rfl, ⟨e, hR⟩ | ⟨E, e, _⟩⟩ := hP
    · cases e; exact kk h' hR
    · cases e) (fun E n' h' _ hP => by
    obtain ⟨rfl, ⟨e, _⟩ | ⟨E', e, hX⟩⟩ := hP
    · cases e
    · cases e; exact x_out rfl rfl rfl (kx E h' hX))
theorem bX11_wall_5 {fr M1 M2 b1 b2 : Nat} {Q : RS → Nat → AH → Prop} {h : AH} {l1 l2 : Int}  (r1 : -2147483648 ≤ l2 ∧ l2 < 2147483648 := by omega) (k0 : l2 = 0 → Wp mX11_wall (kR fr M1 M2) Q (b1, b2) 44 [zR 1, zI l1, zI l2] [] 137 h) (k1 : l2 = 1 → Wp mX11_wall (kR fr M1 M2) Q (b1, b2) 44 [zR 1, zI l1, zI l2] [] 137 h) (k2 : l2 = 2 → Wp mX11_wall (kR fr M1 M2) Q (b1, b2) 44 [zR 1, zI l1, zI l2] [] 137 h) (k3 : l2 = 3 → Wp mX11_wall (kR fr M1 M2) Q (b1, b2) 58 [zR 1, zI l1, zI l2] [] 137 h) (k4 : l2 = 4 → Wp mX11_wall (kR fr M1 M2) Q (b1, b2) 68 [zR 1, zI l1, zI l2] [] 137 h) (k5 : l2 = 5 → Wp mX11_wall (kR fr M1 M2) Q (b1, b2) 78 [zR 1, zI l1, zI l2] [] 137 h) (kd : l2 < 0 ∨ 5 < l2 → Wp mX11_wall (kR fr M1 M2) Q (b1, b2) 88 [zR 1, zI l1, zI l2] [] 137 h) : Wp mX11_wall (kR fr M1 M2) Q (b1, b2) 5 [zR 1, zI l1, zI l2] [] 137 h := by
  refine s_iload_n (x := l2) dX11_wall_5 rfl ?_
  rcases (show (l2 < 0 ∨ 5 < l2) ∨ l2 = 0 ∨ l2 = 1 ∨ l2 = 2 ∨ l2 = 3 ∨ l2 = 4 ∨ l2 = 5 by omega) with z | z | z | z | z | z | z
  · exact s_tableOut (tgt := 88) dX11_wall_6 r1 z (by decide) (kd z)
  · exact s_tableIn (tgt := 44) (off := 38) dX11_wall_6 r1 (by omega) (by omega) (by rw [z]; rfl) (by decide) (k0 z)
  · exact s_tableIn (tgt := 44) (off := 38) dX11_wall_6 r1 (by omega) (by omega) (by rw [z]; rfl) (by decide) (k1 z)
  · exact s_tableIn (tgt := 44) (off := 38) dX11_wall_6 r1 (by omega) (by omega) (by rw [z]; rfl) (by decide) (k2 z)
  · exact s_tableIn (tgt := 58) (off := 52) dX11_wall_6 r1 (by omega) (by omega) (by rw [z]; rfl) (by decide) (k3 z)
  · exact s_tableIn (tgt := 68) (off := 62) dX11_wall_6 r1 (by omega) (by omega) (by rw [z]; rfl) (by decide) (k4 z)
  · exact s_tableIn (tgt := 78) (off := 72) dX11_wall_6 r1 (by omega) (by omega) (by rw [z]; rfl) (by decide) (k5 z)
theorem bX11_wall_44 {fr M1 M2 b1 b2 : Nat} {Q : RS → Nat → AH → Prop} {h : AH} {l1 l2 : Int} (c1 : cel 137 (h 1 4) (2, 21) := by first | assumption | omega) (r1 : 0 ≤ (l1 * 3) + l2 ∧ (l1 * 3) + l2 < 18 := by omega) (hq : Q (.inl (some (zI (h ((h 1 4) + 4) ((l1 * 3) + l2))))) 137 h) : Wp mX11_wall (kR fr M1 M2) Q (b1, b2) 44 [zR 1, zI l1, zI l2] [] 137 h := by
  refine s_aload_n (x := 1) dX11_wall_44 rfl ?_
  refine s_getR (c := 1) dX11_wall_45 lX11_27 e1 rfl ?_
  refine s_getFd (c := h 1 4) (d := (h 1 4) + 4) dX11_wall_48 lX11_162 c1 (Or.inl rfl) rfl (ne0 (fin_X2_10 c1)) ?_
  refine s_iload_n (x := l1) dX11_wall_51 rfl ?_
  refine s_iconst dX11_wall_52 ?_
  refine s_imul dX11_wall_53 ?_
  refine s_iload_n (x := l2) dX11_wall_54 rfl ?_
  refine s_iadd dX11_wall_55 ?_
  refine s_iald (c := (h 1 4) + 4) (i := (l1 * 3) + l2) dX11_wall_56 (fin_X2_10 c1) r1.1 r1.2 ?_
  exact s_ireturn dX11_wall_57 ⟨.int, rfl, rfl⟩ hq (fun z => by cases z)
theorem bX11_wall_58 {fr M1 M2 b1 b2 : Nat} {Q : RS → Nat → AH → Prop} {h : AH} {l1 : Int} {x2 : AV} (c1 : cel 137 (h 1 4) (2, 21) := by first | assumption | omega) (r1 : 0 ≤ l1 ∧ l1 < 6 := by omega) (hq : Q (.inl (some (zI (h ((h 1 4) + 5) l1)))) 137 h) : Wp mX11_wall (kR fr M1 M2) Q (b1, b2) 58 [zR 1, zI l1, x2] [] 137 h := by
  refine s_fgt (fgt_c (fgt_c (fgt_n _ fgt_0))) ?_
  refine s_aload_n (x := 1) dX11_wall_58 rfl ?_
  refine s_getR (c := 1) dX11_wall_59 lX11_27 e1 rfl ?_
  refine s_getFd (c := h 1 4) (d := (h 1 4) + 5) dX11_wall_62 lX11_165 c1 (Or.inl rfl) rfl (ne0 (fin_X2_11 c1)) ?_
  refine s_iload_n (x := l1) dX11_wall_65 rfl ?_
  refine s_iald (c := (h 1 4) + 5) (i := l1) dX11_wall_66 (fin_X2_11 c1) r1.1 r1.2 ?_
  exact s_ireturn dX11_wall_67 ⟨.int, rfl, rfl⟩ hq (fun z => by cases z)
theorem bX11_wall_68 {fr M1 M2 b1 b2 : Nat} {Q : RS → Nat → AH → Prop} {h : AH} {l1 : Int} {x2 : AV} (c1 : cel 137 (h 1 4) (2, 21) := by first | assumption | omega) (r1 : 0 ≤ l1 ∧ l1 < 6 := by omega) (hq : Q (.inl (some (zI (h ((h 1 4) + 6) l1)))) 137 h) : Wp mX11_wall (kR fr M1 M2) Q (b1, b2) 68 [zR 1, zI l1, x2] [] 137 h := by
  refine s_fgt (fgt_c (fgt_c (fgt_n _ fgt_0))) ?_
  refine s_aload_n (x := 1) dX11_wall_68 rfl ?_
  refine s_getR (c := 1) dX11_wall_69 lX11_27 e1 rfl ?_
  refine s_getFd (c := h 1 4) (d := (h 1 4) + 6) dX11_wall_72 lX11_168 c1 (Or.inl rfl) rfl (ne0 (fin_X2_12 c1)) ?_
  refine s_iload_n (x := l1) dX11_wall_75 rfl ?_
  refine s_iald (c := (h 1 4) + 6) (i := l1) dX11_wall_76 (fin_X2_12 c1) r1.1 r1.2 ?_
  exact s_ireturn dX11_wall_77 ⟨.int, rfl, rfl⟩ hq (fun z => by cases z)
theorem bX11_wall_78 {fr M1 M2 b1 b2 : Nat} {Q : RS → Nat → AH → Prop} {h : AH} {l1 : Int} {x2 : AV} (c1 : cel 137 (h 1 4) (2, 21) := by first | assumption | omega) (r1 : 0 ≤ l1 ∧ l1 < 6 := by omega) (hq : Q (.inl (some (zI (h ((h 1 4) + 7) l1)))) 137 h) : Wp mX11_wall (kR fr M1 M2) Q (b1, b2) 78 [zR 1, zI l1, x2] [] 137 h := by
  refine s_fgt (fgt_c (fgt_c (fgt_n _ fgt_0))) ?_
  refine s_aload_n (x := 1) dX11_wall_78 rfl ?_
  refine s_getR (c := 1) dX11_wall_79 lX11_27 e1 rfl ?_
  refine s_getFd (c := h 1 4) (d := (h 1 4) + 7) dX11_wall_82 lX11_171 c1 (Or.inl rfl) rfl (ne0 (fin_X2_13 c1)) ?_
  refine s_iload_n (x := l1) dX11_wall_85 rfl ?_
  refine s_iald (c := (h 1 4) + 7) (i := l1) dX11_wall_86 (fin_X2_13 c1) r1.1 r1.2 ?_
  exact s_ireturn dX11_wall_87 ⟨.int, rfl, rfl⟩ hq (fun z => by cases z)
theorem bX11_wall_88 {fr M1 M2 b1 b2 : Nat} {Q : RS → Nat → AH → Prop} {h : AH} {x0 x1 x2 : AV}   (f8 : 8 ≤ fr := by omega) (g1 : 1 ≤ b1 := by omega) (g2 : 6 ≤ b2 := by omega) (hq : Q (.inr "java/util/NoSuchElementException") 137 h) : Wp mX11_wall (kR fr M1 M2) Q (b1, b2) 88 [x0, x1, x2] [] 137 h := by
  refine s_fgt (fgt_n _ (fgt_n _ (fgt_n _ fgt_0))) ?_
  exact s_throw (Or.inr ⟨rfl, rfl, rfl⟩) rfl dX11_wall_88 dX11_wall_91 dX11_wall_92 dX11_wall_95 rfl rfl rfl f8 (Nat.le_of_ble_eq_true rfl) g1 g2 wd860 wd24 hq
theorem dX11_word_0 : decode mX11_word.cd 0 = .ok (.iload_n 1, 1) := by decide +kernel
theorem dX11_word_1 : decode mX11_word.cd 1 = .ok (.ifCond .lt 18, 3) := by decide +kernel
theorem dX11_word_4 : decode mX11_word.cd 4 = .ok (.iload_n 1, 1) := by decide +kernel
theorem dX11_word_5 : decode mX11_word.cd 5 = .ok (.aload_n 0, 1) := by decide +kernel
theorem dX11_word_6 : decode mX11_word.cd 6 = .ok (.getfield 27, 3) := by decide +kernel
theorem dX11_word_9 : decode mX11_word.cd 9 = .ok (.getfield 141, 3) := by decide +kernel
theorem dX11_word_12 : decode mX11_word.cd 12 = .ok (.if_icmp .ge 7, 3) := by decide +kernel
theorem dX11_word_15 : decode mX11_word.cd 15 = .ok (.iload_n 2, 1) := by decide +kernel
theorem dX11_word_16 : decode mX11_word.cd 16 = .ok (.ifCond .ge 11, 3) := by decide +kernel
theorem dX11_word_19 : decode mX11_word.cd 19 = .ok (.new 156, 3) := by decide +kernel
theorem dX11_word_22 : decode mX11_word.cd 22 = .ok (.dup, 1) := by decide +kernel
theorem dX11_word_23 : decode mX11_word.cd 23 = .ok (.invokespecial 158, 3) := by decide +kernel
theorem dX11_word_26 : decode mX11_word.cd 26 = .ok (.athrow, 1) := by decide +kernel
theorem dX11_word_27 : decode mX11_word.cd 27 = .ok (.iload_n 2, 1) := by decide +kernel
theorem dX11_word_28 : decode mX11_word.cd 28 = .ok (.ifCond .ne 13, 3) := by decide +kernel
theorem dX11_word_31 : decode mX11_word.cd 31 = .ok (.aload_n 0, 1) := by decide +kernel
theorem dX11_word_32 : decode mX11_word.cd 32 = .ok (.getfield 27, 3) := by decide +kernel
theorem dX11_word_35 : decode mX11_word.cd 35 = .ok (.getfield 174, 3) := by decide +kernel
theorem dX11_word_38 : decode mX11_word.cd 38 = .ok (.iload_n 1, 1) := by decide +kernel
theorem dX11_word_39 : decode mX11_word.cd 39 = .ok (.iaload, 1) := by decide +kernel
theorem dX11_word_40 : decode mX11_word.cd 40 = .ok (.ireturn, 1) := by decide +kernel
theorem dX11_word_41 : decode mX11_word.cd 41 = .ok (.iload_n 2, 1) := by decide +kernel
theorem dX11_word_42 : decode mX11_word.cd 42 = .ok (.iconst 1, 1) := by decide +kernel
theorem dX11_word_43 : decode mX11_word.cd 43 = .ok (.if_icmp .ne 13, 3) := by decide +kernel
theorem dX11_word_46 : decode mX11_word.cd 46 = .ok (.aload_n 0, 1) := by decide +kernel
theorem dX11_word_47 : decode mX11_word.cd 47 = .ok (.getfield 27, 3) := by decide +kernel
theorem dX11_word_50 : decode mX11_word.cd 50 = .ok (.getfield 177, 3) := by decide +kernel
theorem dX11_word_53 : decode mX11_word.cd 53 = .ok (.iload_n 1, 1) := by decide +kernel
theorem dX11_word_54 : decode mX11_word.cd 54 = .ok (.iaload, 1) := by decide +kernel
theorem dX11_word_55 : decode mX11_word.cd 55 = .ok (.ireturn, 1) := by decide +kernel
theorem dX11_word_56 : decode mX11_word.cd 56 = .ok (.iload_n 2, 1) := by decide +kernel
theorem dX11_word_57 : decode mX11_word.cd 57 = .ok (.iconst 2, 1) := by decide +kernel
theorem dX11_word_58 : decode mX11_word.cd 58 = .ok (.isub, 1) := by decide +kernel
theorem dX11_word_59 : decode mX11_word.cd 59 = .ok (.aload_n 0, 1) := by decide +kernel
theorem dX11_word_60 : decode mX11_word.cd 60 = .ok (.getfield 27, 3) := by decide +kernel
theorem dX11_word_63 : decode mX11_word.cd 63 = .ok (.getfield 177, 3) := by decide +kernel
theorem dX11_word_66 : decode mX11_word.cd 66 = .ok (.iload_n 1, 1) := by decide +kernel
theorem dX11_word_67 : decode mX11_word.cd 67 = .ok (.iaload, 1) := by decide +kernel
theorem dX11_word_68 : decode mX11_word.cd 68 = .ok (.if_icmp .lt 11, 3) := by decide +kernel
theorem dX11_word_71 : decode mX11_word.cd 71 = .ok (.new 156, 3) := by decide +kernel
theorem dX11_word_74 : decode mX11_word.cd 74 = .ok (.dup, 1) := by decide +kernel
theorem dX11_word_75 : decode mX11_word.cd 75 = .ok (.invokespecial 158, 3) := by decide +kernel
theorem dX11_word_78 : decode mX11_word.cd 78 = .ok (.athrow, 1) := by decide +kernel
theorem dX11_word_79 : decode mX11_word.cd 79 = .ok (.aload_n 0, 1) := by decide +kernel
theorem dX11_word_80 : decode mX11_word.cd 80 = .ok (.getfield 27, 3) := by decide +kernel
theorem dX11_word_83 : decode mX11_word.cd 83 = .ok (.getfield 180, 3) := by decide +kernel
theorem dX11_word_86 : decode mX11_word.cd 86 = .ok (.iload_n 1, 1) := by decide +kernel
theorem dX11_word_87 : decode mX11_word.cd 87 = .ok (.iconst 4, 1) := by decide +kernel
theorem dX11_word_88 : decode mX11_word.cd 88 = .ok (.imul, 1) := by decide +kernel
theorem dX11_word_89 : decode mX11_word.cd 89 = .ok (.iload_n 2, 1) := by decide +kernel
theorem dX11_word_90 : decode mX11_word.cd 90 = .ok (.iadd, 1) := by decide +kernel
theorem dX11_word_91 : decode mX11_word.cd 91 = .ok (.iconst 2, 1) := by decide +kernel
theorem dX11_word_92 : decode mX11_word.cd 92 = .ok (.isub, 1) := by decide +kernel
theorem dX11_word_93 : decode mX11_word.cd 93 = .ok (.iaload, 1) := by decide +kernel
theorem dX11_word_94 : decode mX11_word.cd 94 = .ok (.ireturn, 1) := by decide +kernel
theorem bX11_word_0 {fr M1 M2 b1 b2 : Nat} {Q : RS → Nat → AH → Prop} {h : AH} {l1 l2 : Int}  (r1 : -2147483648 ≤ l1 ∧ l1 < 2147483648 := by omega) (kt : l1 < 0 → Wp mX11_word (kR fr M1 M2) Q (b1, b2) 19 [zR 1, zI l1, zI l2] [] 137 h) (kf : 0 ≤ l1 → Wp mX11_word (kR fr M1 M2) Q (b1, b2) 4 [zR 1, zI l1, zI l2] [] 137 h) : Wp mX11_word (kR fr M1 M2) Q (b1, b2) 0 [zR 1, zI l1, zI l2] [] 137 h := by
  refine s_iload_n (x := l1) dX11_word_0 rfl ?_
  exact s_if_lt (tgt := 19) dX11_word_1 (by decide) r1 kt kf
theorem bX11_word_4 {fr M1 M2 b1 b2 : Nat} {Q : RS → Nat → AH → Prop} {h : AH} {l1 l2 : Int} (c1 : cel 137 (h 1 4) (2, 21) := by first | assumption | omega) (r1 : -2147483648 ≤ l1 ∧ l1 < 2147483648 := by omega) (r2 : -2147483648 ≤ h (h 1 4) 2 ∧ h (h 1 4) 2 < 2147483648 := by omega) (kt : h (h 1 4) 2 ≤ l1 → Wp mX11_word (kR fr M1 M2) Q (b1, b2) 19 [zR 1, zI l1, zI l2] [] 137 h) (kf : l1 < h (h 1 4) 2 → Wp mX11_word (kR fr M1 M2) Q (b1, b2) 15 [zR 1, zI l1, zI l2] [] 137 h) : Wp mX11_word (kR fr M1 M2) Q (b1, b2) 4 [zR 1, zI l1, zI l2] [] 137 h := by
  refine s_iload_n (x := l1) dX11_word_4 rfl ?_
  refine s_aload_n (x := 1) dX11_word_5 rfl ?_
  refine s_getR (c := 1) dX11_word_6 lX11_27 e1 rfl ?_
  refine s_get (c := h 1 4) dX11_word_9 lX11_141 c1 (by decide) ?_
  exact s_icmp_ge (tgt := 19) dX11_word_12 (by decide) r1 r2 kt kf
theorem bX11_word_15 {fr M1 M2 b1 b2 : Nat} {Q : RS → Nat → AH → Prop} {h : AH} {l1 l2 : Int}  (r1 : -2147483648 ≤ l2 ∧ l2 < 2147483648 := by omega) (kt : 0 ≤ l2 → Wp mX11_word (kR fr M1 M2) Q (b1, b2) 27 [zR 1, zI l1, zI l2] [] 137 h) (kf : l2 < 0 → Wp mX11_word (kR fr M1 M2) Q (b1, b2) 19 [zR 1, zI l1, zI l2] [] 137 h) : Wp mX11_word (kR fr M1 M2) Q (b1, b2) 15 [zR 1, zI l1, zI l2] [] 137 h := by
  refine s_iload_n (x := l2) dX11_word_15 rfl ?_
  exact s_if_ge (tgt := 27) dX11_word_16 (by decide) r1 kt kf
theorem bX11_word_19 {fr M1 M2 b1 b2 : Nat} {Q : RS → Nat → AH → Prop} {h : AH} {x0 x1 x2 : AV}   (f8 : 8 ≤ fr := by omega) (g1 : 1 ≤ b1 := by omega) (g2 : 6 ≤ b2 := by omega) (hq : Q (.inr "java/util/NoSuchElementException") 137 h) : Wp mX11_word (kR fr M1 M2) Q (b1, b2) 19 [x0, x1, x2] [] 137 h := by
  refine s_fgt (fgt_n _ (fgt_n _ (fgt_n _ fgt_0))) ?_
  exact s_throw (Or.inr ⟨rfl, rfl, rfl⟩) rfl dX11_word_19 dX11_word_22 dX11_word_23 dX11_word_26 rfl rfl rfl f8 (Nat.le_of_ble_eq_true rfl) g1 g2 wd860 wd24 hq
theorem bX11_word_27 {fr M1 M2 b1 b2 : Nat} {Q : RS → Nat → AH → Prop} {h : AH} {l1 l2 : Int}  (r1 : -2147483648 ≤ l2 ∧ l2 < 2147483648 := by omega) (kt : ¬ l2 = 0 → Wp mX11_word (kR fr M1 M2) Q (b1, b2) 41 [zR 1, zI l1, zI l2] [] 137 h) (kf : l2 = 0 → Wp mX11_word (kR fr M1 M2) Q (b1, b2) 31 [zR 1, zI l1, zI l2] [] 137 h) : Wp mX11_word (kR fr M1 M2) Q (b1, b2) 27 [zR 1, zI l1, zI l2] [] 137 h := by
  refine s_iload_n (x := l2) dX11_word_27 rfl ?_
  exact s_if_ne (tgt := 41) dX11_word_28 (by decide) r1 kt kf
theorem bX11_word_31 {fr M1 M2 b1 b2 : Nat} {Q : RS → Nat → AH → Prop} {h : AH} {l1 : Int} {x2 : AV} (c1 : cel 137 (h 1 4) (2, 21) := by first | assumption | omega) (r1 : 0 ≤ l1 ∧ l1 < 8 := by omega) (hq : Q (.inl (some (zI (h ((h 1 4) + 10) l1)))) 137 h) : Wp mX11_word (kR fr M1 M2) Q (b1, b2) 31 [zR 1, zI l1, x2] [] 137 h := by
  refine s_fgt (fgt_c (fgt_c (fgt_n _ fgt_0))) ?_
  refine s_aload_n (x := 1) dX11_word_31 rfl ?_
  refine s_getR (c := 1) dX11_word_32 lX11_27 e1 rfl ?_
  refine s_getFd (c := h 1 4) (d := (h 1 4) + 10) dX11_word_35 lX11_174 c1 (Or.inl rfl) rfl (ne0 (fin_X2_16 c1)) ?_
  refine s_iload_n (x := l1) dX11_word_38 rfl ?_
  refine s_iald (c := (h 1 4) + 10) (i := l1) dX11_word_39 (fin_X2_16 c1) r1.1 r1.2 ?_
  exact s_ireturn dX11_word_40 ⟨.int, rfl, rfl⟩ hq (fun z => by cases z)
theorem bX11_word_41 {fr M1 M2 b1 b2 : Nat} {Q : RS → Nat → AH → Prop} {h : AH} {l1 l2 : Int}  (r1 : -2147483648 ≤ l2 ∧ l2 < 2147483648 := by omega) (kt : ¬ l2 = 1 → Wp mX11_word (kR fr M1 M2) Q (b1, b2) 56 [zR 1, zI l1, zI l2] [] 137 h) (kf : l2 = 1 → Wp mX11_word (kR fr M1 M2) Q (b1, b2) 46 [zR 1, zI l1, zI l2] [] 137 h) : Wp mX11_word (kR fr M1 M2) Q (b1, b2) 41 [zR 1, zI l1, zI l2] [] 137 h := by
  refine s_iload_n (x := l2) dX11_word_41 rfl ?_
  refine s_iconst dX11_word_42 ?_
  exact s_icmp_ne (tgt := 56) dX11_word_43 (by decide) r1 ⟨by decide, by decide⟩ kt kf
theorem bX11_word_46 {fr M1 M2 b1 b2 : Nat} {Q : RS → Nat → AH → Prop} {h : AH} {l1 : Int} {x2 : AV} (c1 : cel 137 (h 1 4) (2, 21) := by first | assumption | omega) (r1 : 0 ≤ l1 ∧ l1 < 8 := by omega) (hq : Q (.inl (some (zI (h ((h 1 4) + 11) l1)))) 137 h) : Wp mX11_word (kR fr M1 M2) Q (b1, b2) 46 [zR 1, zI l1, x2] [] 137 h := by
  refine s_fgt (fgt_c (fgt_c (fgt_n _ fgt_0))) ?_
  refine s_aload_n (x := 1) dX11_word_46 rfl ?_
  refine s_getR (c := 1) dX11_word_47 lX11_27 e1 rfl ?_
  refine s_getFd (c := h 1 4) (d := (h 1 4) + 11) dX11_word_50 lX11_177 c1 (Or.inl rfl) rfl (ne0 (fin_X2_17 c1)) ?_
  refine s_iload_n (x := l1) dX11_word_53 rfl ?_
  refine s_iald (c := (h 1 4) + 11) (i := l1) dX11_word_54 (fin_X2_17 c1) r1.1 r1.2 ?_
  exact s_ireturn dX11_word_55 ⟨.int, rfl, rfl⟩ hq (fun z => by cases z)
theorem bX11_word_56 {fr M1 M2 b1 b2 : Nat} {Q : RS → Nat → AH → Prop} {h : AH} {l1 l2 : Int} (c1 : cel 137 (h 1 4) (2, 21) := by first | assumption | omega) (r1 : 0 ≤ l1 ∧ l1 < 8 := by omega) (r2 : -2147483648 ≤ l2 - 2 ∧ l2 - 2 < 2147483648 := by omega) (r3 : -2147483648 ≤ h ((h 1 4) + 11) l1 ∧ h ((h 1 4) + 11) l1 < 2147483648 := by omega) (kt : l2 - 2 < h ((h 1 4) + 11) l1 → Wp mX11_word (kR fr M1 M2) Q (b1, b2) 79 [zR 1, zI l1, zI l2] [] 137 h) (kf : h ((h 1 4) + 11) l1 ≤ l2 - 2 → Wp mX11_word (kR fr M1 M2) Q (b1, b2) 71 [zR 1, zI l1, zI l2] [] 137 h) : Wp mX11_word (kR fr M1 M2) Q (b1, b2) 56 [zR 1, zI l1, zI l2] [] 137 h := by
  refine s_iload_n (x := l2) dX11_word_56 rfl ?_
  refine s_iconst dX11_word_57 ?_
  refine s_isub dX11_word_58 ?_
  refine s_aload_n (x := 1) dX11_word_59 rfl ?_
  refine s_getR (c := 1) dX11_word_60 lX11_27 e1 rfl ?_
  refine s_getFd (c := h 1 4) (d := (h 1 4) + 11) dX11_word_63 lX11_177 c1 (Or.inl rfl) rfl (ne0 (fin_X2_17 c1)) ?_
  refine s_iload_n (x := l1) dX11_word_66 rfl ?_
  refine s_iald (c := (h 1 4) + 11) (i := l1) dX11_word_67 (fin_X2_17 c1) r1.1 r1.2 ?_
  exact s_icmp_lt (tgt := 79) dX11_word_68 (by decide) r2 r3 kt kf
theorem bX11_word_71 {fr M1 M2 b1 b2 : Nat} {Q : RS → Nat → AH → Prop} {h : AH} {x0 x1 x2 : AV}   (f8 : 8 ≤ fr := by omega) (g1 : 1 ≤ b1 := by omega) (g2 : 6 ≤ b2 := by omega) (hq : Q (.inr "java/util/NoSuchElementException") 137 h) : Wp mX11_word (kR fr M1 M2) Q (b1, b2) 71 [x0, x1, x2] [] 137 h := by
  refine s_fgt (fgt_n _ (fgt_n _ (fgt_n _ fgt_0))) ?_
  exact s_throw (Or.inr ⟨rfl, rfl, rfl⟩) rfl dX11_word_71 dX11_word_74 dX11_word_75 dX11_word_78 rfl rfl rfl f8 (Nat.le_of_ble_eq_true rfl) g1 g2 wd860 wd24 hq
theorem bX11_word_79 {fr M1 M2 b1 b2 : Nat} {Q : RS → Nat → AH → Prop} {h : AH} {l1 l2 : Int} (c1 : cel 137 (h 1 4) (2, 21) := by first | assumption | omega) (r1 : 0 ≤ ((l1 * 4) + l2) - 2 ∧ ((l1 * 4) + l2) - 2 < 32 := by omega) (hq : Q (.inl (some (zI (h ((h 1 4) + 12) (((l1 * 4) + l2) - 2))))) 137 h) : Wp mX11_word (kR fr M1 M2) Q (b1, b2) 79 [zR 1, zI l1, zI l2] [] 137 h := by
  refine s_aload_n (x := 1) dX11_word_79 rfl ?_
  refine s_getR (c := 1) dX11_word_80 lX11_27 e1 rfl ?_
  refine s_getFd (c := h 1 4) (d := (h 1 4) + 12) dX11_word_83 lX11_180 c1 (Or.inl rfl) rfl (ne0 (fin_X2_18 c1)) ?_
  refine s_iload_n (x := l1) dX11_word_86 rfl ?_
  refine s_iconst dX11_word_87 ?_
  refine s_imul dX11_word_88 ?_
  refine s_iload_n (x := l2) dX11_word_89 rfl ?_
  refine s_iadd dX11_word_90 ?_
  refine s_iconst dX11_word_91 ?_
  refine s_isub dX11_word_92 ?_
  refine s_iald (c := (h 1 4) + 12) (i := ((l1 * 4) + l2) - 2) dX11_word_93 (fin_X2_18 c1) r1.1 r1.2 ?_
  exact s_ireturn dX11_word_94 ⟨.int, rfl, rfl⟩ hq (fun z => by cases z)
theorem dX11_say_0 : decode mX11_say.cd 0 = .ok (.aload_n 0, 1) := by decide +kernel
theorem dX11_say_1 : decode mX11_say.cd 1 = .ok (.iload_n 1, 1) := by decide +kernel
theorem dX11_say_2 : decode mX11_say.cd 2 = .ok (.invokevirtual 183, 3) := by decide +kernel
theorem dX11_say_5 : decode mX11_say.cd 5 = .ok (.aload_n 0, 1) := by decide +kernel
theorem dX11_say_6 : decode mX11_say.cd 6 = .ok (.getfield 37, 3) := by decide +kernel
theorem dX11_say_9 : decode mX11_say.cd 9 = .ok (.iload_n 1, 1) := by decide +kernel
theorem dX11_say_10 : decode mX11_say.cd 10 = .ok (.iload_n 2, 1) := by decide +kernel
theorem dX11_say_11 : decode mX11_say.cd 11 = .ok (.invokevirtual 186, 3) := by decide +kernel
theorem dX11_say_14 : decode mX11_say.cd 14 = .ok (.ifCond .ne 15, 3) := by decide +kernel
theorem dX11_say_17 : decode mX11_say.cd 17 = .ok (.aload_n 0, 1) := by decide +kernel
theorem dX11_say_18 : decode mX11_say.cd 18 = .ok (.getfield 20, 3) := by decide +kernel
theorem dX11_say_21 : decode mX11_say.cd 21 = .ok (.iconst 1, 1) := by decide +kernel
theorem dX11_say_22 : decode mX11_say.cd 22 = .ok (.dup2, 1) := by decide +kernel
theorem dX11_say_23 : decode mX11_say.cd 23 = .ok (.iaload, 1) := by decide +kernel
theorem dX11_say_24 : decode mX11_say.cd 24 = .ok (.iconst 1, 1) := by decide +kernel
theorem dX11_say_25 : decode mX11_say.cd 25 = .ok (.iadd, 1) := by decide +kernel
theorem dX11_say_26 : decode mX11_say.cd 26 = .ok (.iastore, 1) := by decide +kernel
theorem dX11_say_27 : decode mX11_say.cd 27 = .ok (.iconst (-1), 1) := by decide +kernel
theorem dX11_say_28 : decode mX11_say.cd 28 = .ok (.ireturn, 1) := by decide +kernel
theorem dX11_say_29 : decode mX11_say.cd 29 = .ok (.aload_n 0, 1) := by decide +kernel
theorem dX11_say_30 : decode mX11_say.cd 30 = .ok (.getfield 86, 3) := by decide +kernel
theorem dX11_say_33 : decode mX11_say.cd 33 = .ok (.invokevirtual 133, 3) := by decide +kernel
theorem dX11_say_36 : decode mX11_say.cd 36 = .ok (.aload_n 0, 1) := by decide +kernel
theorem dX11_say_37 : decode mX11_say.cd 37 = .ok (.getfield 37, 3) := by decide +kernel
theorem dX11_say_40 : decode mX11_say.cd 40 = .ok (.getfield 147, 3) := by decide +kernel
theorem dX11_say_43 : decode mX11_say.cd 43 = .ok (.ireturn, 1) := by decide +kernel
theorem bX11_say_0 {fr M1 M2 b1 b2 : Nat} {Q : RS → Nat → AH → Prop} {h : AH} {l1 l2 : Int} {R : AH → Prop} {X : String → AH → Prop}   (hS : Sp mX11_needSound true (fr - 1) 1 6 [zR 1, zI l1] 137 h (rVx R X)) (hf : 1 ≤ fr := by omega) (g1 : 1 ≤ b1 := by omega) (g2 : 6 ≤ b2 := by omega) (kk : ∀ h' : AH, R h' → Wp mX11_say (kR fr M1 M2) Q (b1 - 1, b2 - 6) 5 [zR 1, zI l1, zI l2] [] 137 h') (kx : ∀ (E : String) (h' : AH), X E h' → Q (.inr E) 137 h') : Wp mX11_say (kR fr M1 M2) Q (b1, b2) 0 [zR 1, zI l1, zI l2] [] 137 h := by
  refine s_aload_n (x := 1) dX11_say_0 rfl ?_
  refine s_iload_n (x := l1) dX11_say_1 rfl ?_
  exact s_callV (as := [zI l1]) (st := []) (o := 1) dX11_say_2 kX11_183 rfl ⟨11, 18, TX11, e1, rfl, by decide⟩ rfl rfl (Nat.le_of_ble_eq_true rfl) hS (show fr - 1 + 1 ≤ fr by omega) g1 g2 (fun v n' h' hP _ => by
    obtain ⟨rfl, ⟨e, hR⟩ | ⟨E, e, _⟩⟩ := hP
    · cases e; exact kk h' hR
    · cases e) (fun E n' h' _ hP => by
    obtain ⟨rfl, ⟨e, _⟩ | ⟨E', e, hX⟩⟩ := hP
    · cases e
    · cases e; exact x_out rfl rfl rfl (kx E h' hX))
theorem bX11_say_5 {fr M1 M2 b1 b2 : Nat} {Q : RS → Nat → AH → Prop} {h : AH} {l1 l2 : Int} {R : Int → AH → Prop}   (hS : Sp mX8_addSaid true (fr - 1) 0 0 [zR 34, zI l1, zI l2] 137 h (rI R)) (hf : 1 ≤ fr := by omega) (kk : ∀ (x : Int) (h' : AH), R x h' → Wp mX11_say (kR fr M1 M2) Q (b1, b2) 14 [zR 1, zI l1, zI l2] [zI x] 137 h') : Wp mX11_say (kR fr M1 M2) Q (b1, b2) 5 [zR 1, zI l1, zI l2] [] 137 h := by
  refine s_aload_n (x := 1) dX11_say_5 rfl ?_
  refine s_getFd (c := 1) (d := 34) dX11_say_6 lX11_37 e1 (Or.inl rfl) (by decide) (by decide) ?_
  refine s_iload_n (x := l1) dX11_say_9 rfl ?_
  refine s_iload_n (x := l2) dX11_say_10 rfl ?_
  exact s_callV (as := [zI l1, zI l2]) (st := []) (o := 34) dX11_say_11 kX11_186 rfl ⟨8, 8, TX8, e34, rfl, by decide⟩ rfl rfl (Nat.le_of_ble_eq_true rfl) hS (show fr - 1 + 1 ≤ fr by omega) (Nat.zero_le _) (Nat.zero_le _) (fun v n' h' hP _ => by obtain ⟨x, e, rfl, hR⟩ := hP; cases e; exact kk x h' hR) (fun E n' h' _ z => (rI_nt _ _ _ z).elim)
theorem bX11_say_14 {fr M1 M2 b1 b2 : Nat} {Q : RS → Nat → AH → Prop} {h : AH} {s0 : Int} {x1 x2 : AV}  (r1 : -2147483648 ≤ s0 ∧ s0 < 2147483648 := by omega) (kt : ¬ s0 = 0 → Wp mX11_say (kR fr M1 M2) Q (b1, b2) 29 [zR 1, none, none] [] 137 h) (kf : s0 = 0 → Wp mX11_say (kR fr M1 M2) Q (b1, b2) 17 [zR 1, none, none] [] 137 h) : Wp mX11_say (kR fr M1 M2) Q (b1, b2) 14 [zR 1, x1, x2] [zI s0] 137 h := by
  refine s_fgt (fgt_c (fgt_n _ (fgt_n _ fgt_0))) ?_
  exact s_if_ne (tgt := 29) dX11_say_14 (by decide) r1 kt kf
theorem bX11_say_17 {fr M1 M2 b1 b2 : Nat} {Q : RS → Nat → AH → Prop} {h : AH} {x1 x2 : AV}   (hq : Q (.inl (some (zI (-1)))) 137 (up h 3 1 ((h 3 1) + 1))) : Wp mX11_say (kR fr M1 M2) Q (b1, b2) 17 [zR 1, x1, x2] [] 137 h := by
  refine s_fgt (fgt_c (fgt_n _ (fgt_n _ fgt_0))) ?_
  refine s_aload_n (x := 1) dX11_say_17 rfl ?_
  refine s_getFd (c := 1) (d := 3) dX11_say_18 lX11_20 e1 (Or.inl rfl) (by decide) (by decide) ?_
  refine s_iconst dX11_say_21 ?_
  refine s_dup2 dX11_say_22 rfl rfl ?_
  refine s_iald (c := 3) (i := 1) dX11_say_23 e3 (by decide) (by decide) ?_
  refine s_iconst dX11_say_24 ?_
  refine s_iadd dX11_say_25 ?_
  refine s_iast (c := 3) (i := 1) dX11_say_26 e3 (by decide) (by decide) ?_
  refine s_iconst dX11_say_27 ?_
  exact s_ireturn dX11_say_28 ⟨.int, rfl, rfl⟩ hq (fun z => by cases z)
theorem bX11_say_29 {fr M1 M2 b1 b2 : Nat} {Q : RS → Nat → AH → Prop} {h : AH} {x1 x2 : AV} {R : AH → Prop}   (hS : Sp mX3_forget true (fr - 1) 0 0 [zR 82] 137 h (rV R)) (hf : 1 ≤ fr := by omega) (kk : ∀ h' : AH, R h' → Wp mX11_say (kR fr M1 M2) Q (b1, b2) 36 [zR 1, none, none] [] 137 h') : Wp mX11_say (kR fr M1 M2) Q (b1, b2) 29 [zR 1, x1, x2] [] 137 h := by
  refine s_fgt (fgt_c (fgt_n _ (fgt_n _ fgt_0))) ?_
  refine s_aload_n (x := 1) dX11_say_29 rfl ?_
  refine s_getFd (c := 1) (d := 82) dX11_say_30 lX11_86 e1 (Or.inl rfl) (by decide) (by decide) ?_
  exact s_callV (as := []) (st := []) (o := 82) dX11_say_33 kX11_133 rfl ⟨3, 8, TX3, e82, rfl, by decide⟩ rfl rfl (Nat.le_of_ble_eq_true rfl) hS (show fr - 1 + 1 ≤ fr by omega) (Nat.zero_le _) (Nat.zero_le _) (fun v n' h' hP _ => by obtain ⟨e, rfl, hR⟩ := hP; cases e; exact kk h' hR) (fun E n' h' _ z => (rV_nt _ _ _ z).elim)
theorem bX11_say_36 {fr M1 M2 b1 b2 : Nat} {Q : RS → Nat → AH → Prop} {h : AH} {x1 x2 : AV}   (hq : Q (.inl (some (zI (h 34 1)))) 137 h) : Wp mX11_say (kR fr M1 M2) Q (b1, b2) 36 [zR 1, x1, x2] [] 137 h := by
  refine s_fgt (fgt_c (fgt_n _ (fgt_n _ fgt_0))) ?_
  refine s_aload_n (x := 1) dX11_say_36 rfl ?_
  refine s_getFd (c := 1) (d := 34) dX11_say_37 lX11_37 e1 (Or.inl rfl) (by decide) (by decide) ?_
  refine s_get (c := 34) dX11_say_40 lX11_147 e34 (by decide) ?_
  exact s_ireturn dX11_say_43 ⟨.int, rfl, rfl⟩ hq (fun z => by cases z)
theorem dX11_hush_0 : decode mX11_hush.cd 0 = .ok (.aload_n 0, 1) := by decide +kernel
theorem dX11_hush_1 : decode mX11_hush.cd 1 = .ok (.getfield 37, 3) := by decide +kernel
theorem dX11_hush_4 : decode mX11_hush.cd 4 = .ok (.getfield 147, 3) := by decide +kernel
theorem dX11_hush_7 : decode mX11_hush.cd 7 = .ok (.istore_n 1, 1) := by decide +kernel
theorem dX11_hush_8 : decode mX11_hush.cd 8 = .ok (.aload_n 0, 1) := by decide +kernel
theorem dX11_hush_9 : decode mX11_hush.cd 9 = .ok (.getfield 37, 3) := by decide +kernel
theorem dX11_hush_12 : decode mX11_hush.cd 12 = .ok (.invokevirtual 190, 3) := by decide +kernel
theorem dX11_hush_15 : decode mX11_hush.cd 15 = .ok (.aload_n 0, 1) := by decide +kernel
theorem dX11_hush_16 : decode mX11_hush.cd 16 = .ok (.getfield 86, 3) := by decide +kernel
theorem dX11_hush_19 : decode mX11_hush.cd 19 = .ok (.invokevirtual 133, 3) := by decide +kernel
theorem dX11_hush_22 : decode mX11_hush.cd 22 = .ok (.iload_n 1, 1) := by decide +kernel
theorem dX11_hush_23 : decode mX11_hush.cd 23 = .ok (.ireturn, 1) := by decide +kernel
theorem bX11_hush_0 {fr M1 M2 b1 b2 : Nat} {Q : RS → Nat → AH → Prop} {h : AH} {x1 : AV} {R : AH → Prop}   (hS : Sp mX8_clearSaid true (fr - 1) 0 0 [zR 34] 137 h (rV R)) (hf : 1 ≤ fr := by omega) (kk : ∀ h' : AH, R h' → Wp mX11_hush (kR fr M1 M2) Q (b1, b2) 15 [zR 1, zI (h 34 1)] [] 137 h') : Wp mX11_hush (kR fr M1 M2) Q (b1, b2) 0 [zR 1, x1] [] 137 h := by
  refine s_fgt (fgt_c (fgt_n _ fgt_0)) ?_
  refine s_aload_n (x := 1) dX11_hush_0 rfl ?_
  refine s_getFd (c := 1) (d := 34) dX11_hush_1 lX11_37 e1 (Or.inl rfl) (by decide) (by decide) ?_
  refine s_get (c := 34) dX11_hush_4 lX11_147 e34 (by decide) ?_
  refine s_istore_n dX11_hush_7 rfl (by decide) ?_
  refine s_aload_n (x := 1) dX11_hush_8 rfl ?_
  refine s_getFd (c := 1) (d := 34) dX11_hush_9 lX11_37 e1 (Or.inl rfl) (by decide) (by decide) ?_
  exact s_callV (as := []) (st := []) (o := 34) dX11_hush_12 kX11_190 rfl ⟨8, 8, TX8, e34, rfl, by decide⟩ rfl rfl (Nat.le_of_ble_eq_true rfl) hS (show fr - 1 + 1 ≤ fr by omega) (Nat.zero_le _) (Nat.zero_le _) (fun v n' h' hP _ => by obtain ⟨e, rfl, hR⟩ := hP; cases e; exact kk h' hR) (fun E n' h' _ z => (rV_nt _ _ _ z).elim)
theorem bX11_hush_15 {fr M1 M2 b1 b2 : Nat} {Q : RS → Nat → AH → Prop} {h : AH} {l1 : Int} {R : AH → Prop}   (hS : Sp mX3_forget true (fr - 1) 0 0 [zR 82] 137 h (rV R)) (hf : 1 ≤ fr := by omega) (kk : ∀ h' : AH, R h' → Wp mX11_hush (kR fr M1 M2) Q (b1, b2) 22 [zR 1, zI l1] [] 137 h') : Wp mX11_hush (kR fr M1 M2) Q (b1, b2) 15 [zR 1, zI l1] [] 137 h := by
  refine s_aload_n (x := 1) dX11_hush_15 rfl ?_
  refine s_getFd (c := 1) (d := 82) dX11_hush_16 lX11_86 e1 (Or.inl rfl) (by decide) (by decide) ?_
  exact s_callV (as := []) (st := []) (o := 82) dX11_hush_19 kX11_133 rfl ⟨3, 8, TX3, e82, rfl, by decide⟩ rfl rfl (Nat.le_of_ble_eq_true rfl) hS (show fr - 1 + 1 ≤ fr by omega) (Nat.zero_le _) (Nat.zero_le _) (fun v n' h' hP _ => by obtain ⟨e, rfl, hR⟩ := hP; cases e; exact kk h' hR) (fun E n' h' _ z => (rV_nt _ _ _ z).elim)
theorem bX11_hush_22 {fr M1 M2 b1 b2 : Nat} {Q : RS → Nat → AH → Prop} {h : AH} {l1 : Int} {x0 : AV}   (hq : Q (.inl (some (zI l1))) 137 h) : Wp mX11_hush (kR fr M1 M2) Q (b1, b2) 22 [x0, zI l1] [] 137 h := by
  refine s_fgt (fgt_n _ (fgt_c fgt_0)) ?_
  refine s_iload_n (x := l1) dX11_hush_22 rfl ?_
  exact s_ireturn dX11_hush_23 ⟨.int, rfl, rfl⟩ hq (fun z => by cases z)
theorem dX11_heard_0 : decode mX11_heard.cd 0 = .ok (.aload_n 0, 1) := by decide +kernel
theorem dX11_heard_1 : decode mX11_heard.cd 1 = .ok (.iload_n 1, 1) := by decide +kernel
theorem dX11_heard_2 : decode mX11_heard.cd 2 = .ok (.iload_n 2, 1) := by decide +kernel
theorem dX11_heard_3 : decode mX11_heard.cd 3 = .ok (.iload_n 3, 1) := by decide +kernel
theorem dX11_heard_4 : decode mX11_heard.cd 4 = .ok (.invokevirtual 193, 3) := by decide +kernel
theorem dX11_heard_7 : decode mX11_heard.cd 7 = .ok (.aload_n 0, 1) := by decide +kernel
theorem dX11_heard_8 : decode mX11_heard.cd 8 = .ok (.getfield 58, 3) := by decide +kernel
theorem dX11_heard_11 : decode mX11_heard.cd 11 = .ok (.aload_n 0, 1) := by decide +kernel
theorem dX11_heard_12 : decode mX11_heard.cd 12 = .ok (.getfield 27, 3) := by decide +kernel
theorem dX11_heard_15 : decode mX11_heard.cd 15 = .ok (.iload_n 1, 1) := by decide +kernel
theorem dX11_heard_16 : decode mX11_heard.cd 16 = .ok (.aload_n 0, 1) := by decide +kernel
theorem dX11_heard_17 : decode mX11_heard.cd 17 = .ok (.getfield 27, 3) := by decide +kernel
theorem dX11_heard_20 : decode mX11_heard.cd 20 = .ok (.getfield 197, 3) := by decide +kernel
theorem dX11_heard_23 : decode mX11_heard.cd 23 = .ok (.iload_n 2, 1) := by decide +kernel
theorem dX11_heard_24 : decode mX11_heard.cd 24 = .ok (.iaload, 1) := by decide +kernel
theorem dX11_heard_25 : decode mX11_heard.cd 25 = .ok (.iconst 0, 1) := by decide +kernel
theorem dX11_heard_26 : decode mX11_heard.cd 26 = .ok (.iconst (-1), 1) := by decide +kernel
theorem dX11_heard_27 : decode mX11_heard.cd 27 = .ok (.invokevirtual 200, 3) := by decide +kernel
theorem dX11_heard_30 : decode mX11_heard.cd 30 = .ok (.aload_n 0, 1) := by decide +kernel
theorem dX11_heard_31 : decode mX11_heard.cd 31 = .ok (.getfield 65, 3) := by decide +kernel
theorem dX11_heard_34 : decode mX11_heard.cd 34 = .ok (.aload_n 0, 1) := by decide +kernel
theorem dX11_heard_35 : decode mX11_heard.cd 35 = .ok (.getfield 27, 3) := by decide +kernel
theorem dX11_heard_38 : decode mX11_heard.cd 38 = .ok (.aload_n 0, 1) := by decide +kernel
theorem dX11_heard_39 : decode mX11_heard.cd 39 = .ok (.getfield 58, 3) := by decide +kernel
theorem dX11_heard_42 : decode mX11_heard.cd 42 = .ok (.aload_n 0, 1) := by decide +kernel
theorem dX11_heard_43 : decode mX11_heard.cd 43 = .ok (.getfield 37, 3) := by decide +kernel
theorem dX11_heard_46 : decode mX11_heard.cd 46 = .ok (.getfield 204, 3) := by decide +kernel
theorem dX11_heard_49 : decode mX11_heard.cd 49 = .ok (.sipush 199, 3) := by decide +kernel
theorem dX11_heard_52 : decode mX11_heard.cd 52 = .ok (.invokevirtual 207, 3) := by decide +kernel
theorem dX11_heard_55 : decode mX11_heard.cd 55 = .ok (.iconst 0, 1) := by decide +kernel
theorem dX11_heard_56 : decode mX11_heard.cd 56 = .ok (.iload_n 3, 1) := by decide +kernel
theorem dX11_heard_57 : decode mX11_heard.cd 57 = .ok (.aload_n 0, 1) := by decide +kernel
theorem dX11_heard_58 : decode mX11_heard.cd 58 = .ok (.getfield 27, 3) := by decide +kernel
theorem dX11_heard_61 : decode mX11_heard.cd 61 = .ok (.getfield 211, 3) := by decide +kernel
theorem dX11_heard_64 : decode mX11_heard.cd 64 = .ok (.isub, 1) := by decide +kernel
theorem dX11_heard_65 : decode mX11_heard.cd 65 = .ok (.invokestatic 214, 3) := by decide +kernel
theorem dX11_heard_68 : decode mX11_heard.cd 68 = .ok (.istore 4, 2) := by decide +kernel
theorem dX11_heard_70 : decode mX11_heard.cd 70 = .ok (.iload 4, 2) := by decide +kernel
theorem dX11_heard_72 : decode mX11_heard.cd 72 = .ok (.iload_n 3, 1) := by decide +kernel
theorem dX11_heard_73 : decode mX11_heard.cd 73 = .ok (.if_icmp .gt 18, 3) := by decide +kernel
theorem dX11_heard_76 : decode mX11_heard.cd 76 = .ok (.aload_n 0, 1) := by decide +kernel
theorem dX11_heard_77 : decode mX11_heard.cd 77 = .ok (.getfield 65, 3) := by decide +kernel
theorem dX11_heard_80 : decode mX11_heard.cd 80 = .ok (.iload 4, 2) := by decide +kernel
theorem dX11_heard_82 : decode mX11_heard.cd 82 = .ok (.invokevirtual 220, 3) := by decide +kernel
theorem dX11_heard_85 : decode mX11_heard.cd 85 = .ok (.iinc 4 1, 3) := by decide +kernel
theorem dX11_heard_88 : decode mX11_heard.cd 88 = .ok (.goto (-18), 3) := by decide +kernel
theorem dX11_heard_91 : decode mX11_heard.cd 91 = .ok (.aload_n 0, 1) := by decide +kernel
theorem dX11_heard_92 : decode mX11_heard.cd 92 = .ok (.getfield 65, 3) := by decide +kernel
theorem dX11_heard_95 : decode mX11_heard.cd 95 = .ok (.iload_n 3, 1) := by decide +kernel
theorem dX11_heard_96 : decode mX11_heard.cd 96 = .ok (.invokevirtual 223, 3) := by decide +kernel
theorem dX11_heard_99 : decode mX11_heard.cd 99 = .ok (.ireturn, 1) := by decide +kernel
theorem bX11_heard_0 {fr M1 M2 b1 b2 : Nat} {Q : RS → Nat → AH → Prop} {h : AH} {l1 l2 l3 : Int} {x4 : AV} {R : AH → Prop} {X : String → AH → Prop}   (hS : Sp mX11_needMoment true (fr - 1) 3 18 [zR 1, zI l1, zI l2, zI l3] 137 h (rVx R X)) (hf : 1 ≤ fr := by omega) (g1 : 3 ≤ b1 := by omega) (g2 : 18 ≤ b2 := by omega) (kk : ∀ h' : AH, R h' → Wp mX11_heard (kR fr M1 M2) Q (b1 - 3, b2 - 18) 7 [zR 1, zI l1, zI l2, zI l3, none] [] 137 h') (kx : ∀ (E : String) (h' : AH), X E h' → Q (.inr E) 137 h') : Wp mX11_heard (kR fr M1 M2) Q (b1, b2) 0 [zR 1, zI l1, zI l2, zI l3, x4] [] 137 h := by
  refine s_fgt (fgt_c (fgt_c (fgt_c (fgt_c (fgt_n _ fgt_0))))) ?_
  refine s_aload_n (x := 1) dX11_heard_0 rfl ?_
  refine s_iload_n (x := l1) dX11_heard_1 rfl ?_
  refine s_iload_n (x := l2) dX11_heard_2 rfl ?_
  refine s_iload_n (x := l3) dX11_heard_3 rfl ?_
  exact s_callV (as := [zI l1, zI l2, zI l3]) (st := []) (o := 1) dX11_heard_4 kX11_193 rfl ⟨11, 18, TX11, e1, rfl, by decide⟩ rfl rfl (Nat.le_of_ble_eq_true rfl) hS (show fr - 1 + 1 ≤ fr by omega) g1 g2 (fun v n' h' hP _ => by
    obtain ⟨rfl, ⟨e, hR⟩ | ⟨E, e, _⟩⟩ := hP
    · cases e; exact kk h' hR
    · cases e) (fun E n' h' _ hP => by
    obtain ⟨rfl, ⟨e, _⟩ | ⟨E', e, hX⟩⟩ := hP
    · cases e
    · cases e; exact x_out rfl rfl rfl (kx E h' hX))
theorem bX11_heard_7 {fr M1 M2 b1 b2 : Nat} {Q : RS → Nat → AH → Prop} {h : AH} {l1 l2 l3 : Int} {x4 : AV} {R : AH → Prop} (c1 : cel 137 (h 1 4) (2, 21) := by first | assumption | omega) (r1 : 0 ≤ l2 ∧ l2 < 24 := by omega) (hS : Sp mX7_build true (fr - 1) 0 0 [zR 47, zR (h 1 4), zI l1, zI (h ((h 1 4) + 9) l2), zI 0, zI (-1)] 137 h (rV R)) (hf : 1 ≤ fr := by omega) (kk : ∀ h' : AH, R h' → Wp mX11_heard (kR fr M1 M2) Q (b1, b2) 30 [zR 1, zI l1, zI l2, zI l3, none] [] 137 h') : Wp mX11_heard (kR fr M1 M2) Q (b1, b2) 7 [zR 1, zI l1, zI l2, zI l3, x4] [] 137 h := by
  refine s_fgt (fgt_c (fgt_c (fgt_c (fgt_c (fgt_n _ fgt_0))))) ?_
  refine s_aload_n (x := 1) dX11_heard_7 rfl ?_
  refine s_getFd (c := 1) (d := 47) dX11_heard_8 lX11_58 e1 (Or.inl rfl) (by decide) (by decide) ?_
  refine s_aload_n (x := 1) dX11_heard_11 rfl ?_
  refine s_getR (c := 1) dX11_heard_12 lX11_27 e1 rfl ?_
  refine s_iload_n (x := l1) dX11_heard_15 rfl ?_
  refine s_aload_n (x := 1) dX11_heard_16 rfl ?_
  refine s_getR (c := 1) dX11_heard_17 lX11_27 e1 rfl ?_
  refine s_getFd (c := h 1 4) (d := (h 1 4) + 9) dX11_heard_20 lX11_197 c1 (Or.inl rfl) rfl (ne0 (fin_X2_15 c1)) ?_
  refine s_iload_n (x := l2) dX11_heard_23 rfl ?_
  refine s_iald (c := (h 1 4) + 9) (i := l2) dX11_heard_24 (fin_X2_15 c1) r1.1 r1.2 ?_
  refine s_iconst dX11_heard_25 ?_
  refine s_iconst dX11_heard_26 ?_
  exact s_callV (as := [zR (h 1 4), zI l1, zI (h ((h 1 4) + 9) l2), zI 0, zI (-1)]) (st := []) (o := 47) dX11_heard_27 kX11_200 rfl ⟨7, 9, TX7, e47, rfl, by decide⟩ rfl rfl (Nat.le_of_ble_eq_true rfl) hS (show fr - 1 + 1 ≤ fr by omega) (Nat.zero_le _) (Nat.zero_le _) (fun v n' h' hP _ => by obtain ⟨e, rfl, hR⟩ := hP; cases e; exact kk h' hR) (fun E n' h' _ z => (rV_nt _ _ _ z).elim)
theorem bX11_heard_30 {fr M1 M2 b1 b2 : Nat} {Q : RS → Nat → AH → Prop} {h : AH} {l3 : Int} {x1 x2 x4 : AV} {R : AH → Prop}   (hS : Sp mX4_attend true (fr - 1) 0 0 [zR 51, zR (h 1 4), zR 47, zR 35, zI 199] 137 h (rV R)) (hf : 1 ≤ fr := by omega) (kk : ∀ h' : AH, R h' → Wp mX11_heard (kR fr M1 M2) Q (b1, b2) 55 [zR 1, none, none, zI l3, none] [] 137 h') : Wp mX11_heard (kR fr M1 M2) Q (b1, b2) 30 [zR 1, x1, x2, zI l3, x4] [] 137 h := by
  refine s_fgt (fgt_c (fgt_n _ (fgt_n _ (fgt_c (fgt_n _ fgt_0))))) ?_
  refine s_aload_n (x := 1) dX11_heard_30 rfl ?_
  refine s_getFd (c := 1) (d := 51) dX11_heard_31 lX11_65 e1 (Or.inl rfl) (by decide) (by decide) ?_
  refine s_aload_n (x := 1) dX11_heard_34 rfl ?_
  refine s_getR (c := 1) dX11_heard_35 lX11_27 e1 rfl ?_
  refine s_aload_n (x := 1) dX11_heard_38 rfl ?_
  refine s_getFd (c := 1) (d := 47) dX11_heard_39 lX11_58 e1 (Or.inl rfl) (by decide) (by decide) ?_
  refine s_aload_n (x := 1) dX11_heard_42 rfl ?_
  refine s_getFd (c := 1) (d := 34) dX11_heard_43 lX11_37 e1 (Or.inl rfl) (by decide) (by decide) ?_
  refine s_getFd (c := 34) (d := 35) dX11_heard_46 lX11_204 e34 (Or.inl rfl) (by decide) (by decide) ?_
  refine s_sipush dX11_heard_49 (by decide) ?_
  exact s_callV (as := [zR (h 1 4), zR 47, zR 35, zI 199]) (st := []) (o := 51) dX11_heard_52 kX11_207 rfl ⟨4, 9, TX4, e51, rfl, by decide⟩ rfl rfl (Nat.le_of_ble_eq_true rfl) hS (show fr - 1 + 1 ≤ fr by omega) (Nat.zero_le _) (Nat.zero_le _) (fun v n' h' hP _ => by obtain ⟨e, rfl, hR⟩ := hP; cases e; exact kk h' hR) (fun E n' h' _ z => (rV_nt _ _ _ z).elim)
theorem bX11_heard_55 {fr M1 M2 b1 b2 : Nat} {Q : RS → Nat → AH → Prop} {h : AH} {l3 : Int} {x1 x2 x4 : AV} (c1 : cel 137 (h 1 4) (2, 21) := by first | assumption | omega) (r1 : 1 ≤ fr := by omega) (r2 : -2147483648 ≤ l3 - (h (h 1 4) 5) ∧ l3 - (h (h 1 4) 5) < 2147483648 := by omega) (kk : Wp mX11_heard (kR fr M1 M2) Q (b1, b2) 70 [zR 1, none, none, zI l3, zI (max 0 (l3 - (h (h 1 4) 5)))] [] 137 h) : Wp mX11_heard (kR fr M1 M2) Q (b1, b2) 55 [zR 1, x1, x2, zI l3, x4] [] 137 h := by
  refine s_fgt (fgt_c (fgt_n _ (fgt_n _ (fgt_c (fgt_n _ fgt_0))))) ?_
  refine s_iconst dX11_heard_55 ?_
  refine s_iload_n (x := l3) dX11_heard_56 rfl ?_
  refine s_aload_n (x := 1) dX11_heard_57 rfl ?_
  refine s_getR (c := 1) dX11_heard_58 lX11_27 e1 rfl ?_
  refine s_get (c := h 1 4) dX11_heard_61 lX11_211 c1 (by decide) ?_
  refine s_isub dX11_heard_64 ?_
  refine s_mmax dX11_heard_65 wd952 wd953 wd19 wd954 r1 (Nat.le_of_ble_eq_true rfl) ⟨by decide, by decide⟩ r2 ?_
  refine s_istore dX11_heard_68 rfl (by decide) ?_
  exact kk
theorem bX11_heard_70 {fr M1 M2 b1 b2 : Nat} {Q : RS → Nat → AH → Prop} {h : AH} {l3 l4 : Int} {x1 x2 : AV}  (r1 : -2147483648 ≤ l4 ∧ l4 < 2147483648 := by omega) (r2 : -2147483648 ≤ l3 ∧ l3 < 2147483648 := by omega) (kt : l3 < l4 → Wp mX11_heard (kR fr M1 M2) Q (b1, b2) 91 [zR 1, none, none, zI l3, zI l4] [] 137 h) (kf : l4 ≤ l3 → Wp mX11_heard (kR fr M1 M2) Q (b1, b2) 76 [zR 1, none, none, zI l3, zI l4] [] 137 h) : Wp mX11_heard (kR fr M1 M2) Q (b1, b2) 70 [zR 1, x1, x2, zI l3, zI l4] [] 137 h := by
  refine s_fgt (fgt_c (fgt_n _ (fgt_n _ (fgt_c (fgt_c fgt_0))))) ?_
  refine s_iload (x := l4) dX11_heard_70 rfl ?_
  refine s_iload_n (x := l3) dX11_heard_72 rfl ?_
  exact s_icmp_gt (tgt := 91) dX11_heard_73 (by decide) r1 r2 kt kf
theorem bX11_heard_76 {fr M1 M2 b1 b2 : Nat} {Q : RS → Nat → AH → Prop} {h : AH} {l3 l4 : Int} {x1 x2 : AV} {R : AH → Prop}   (hS : Sp mX4_measure true (fr - 1) 0 0 [zR 51, zI l4] 137 h (rV R)) (hf : 1 ≤ fr := by omega) (kk : ∀ h' : AH, R h' → Wp mX11_heard (kR fr M1 M2) Q (b1, b2) 85 [zR 1, none, none, zI l3, zI l4] [] 137 h') : Wp mX11_heard (kR fr M1 M2) Q (b1, b2) 76 [zR 1, x1, x2, zI l3, zI l4] [] 137 h := by
  refine s_fgt (fgt_c (fgt_n _ (fgt_n _ (fgt_c (fgt_c fgt_0))))) ?_
  refine s_aload_n (x := 1) dX11_heard_76 rfl ?_
  refine s_getFd (c := 1) (d := 51) dX11_heard_77 lX11_65 e1 (Or.inl rfl) (by decide) (by decide) ?_
  refine s_iload (x := l4) dX11_heard_80 rfl ?_
  exact s_callV (as := [zI l4]) (st := []) (o := 51) dX11_heard_82 kX11_220 rfl ⟨4, 9, TX4, e51, rfl, by decide⟩ rfl rfl (Nat.le_of_ble_eq_true rfl) hS (show fr - 1 + 1 ≤ fr by omega) (Nat.zero_le _) (Nat.zero_le _) (fun v n' h' hP _ => by obtain ⟨e, rfl, hR⟩ := hP; cases e; exact kk h' hR) (fun E n' h' _ z => (rV_nt _ _ _ z).elim)
theorem bX11_heard_85 {fr M1 M2 b1 b2 : Nat} {Q : RS → Nat → AH → Prop} {h : AH} {l3 l4 : Int} {x1 x2 : AV}   (kk : Wp mX11_heard (kR fr M1 M2) Q (b1, b2) 70 [zR 1, none, none, zI l3, zI (l4 + 1)] [] 137 h) : Wp mX11_heard (kR fr M1 M2) Q (b1, b2) 85 [zR 1, x1, x2, zI l3, zI l4] [] 137 h := by
  refine s_fgt (fgt_c (fgt_n _ (fgt_n _ (fgt_c (fgt_c fgt_0))))) ?_
  refine s_iinc (x := l4) dX11_heard_85 rfl rfl (by decide) ?_
  exact s_goto (tgt := 70) dX11_heard_88 (by decide) kk
theorem bX11_heard_91 {fr M1 M2 b1 b2 : Nat} {Q : RS → Nat → AH → Prop} {h : AH} {l3 : Int} {x1 x2 x4 : AV} {R : Int → AH → Prop}   (hS : Sp mX4_hears true (fr - 1) 0 0 [zR 51, zI l3] 137 h (rI R)) (hf : 1 ≤ fr := by omega) (kk : ∀ (x : Int) (h' : AH), R x h' → Wp mX11_heard (kR fr M1 M2) Q (b1, b2) 99 [zR 1, none, none, zI l3, none] [zI x] 137 h') : Wp mX11_heard (kR fr M1 M2) Q (b1, b2) 91 [zR 1, x1, x2, zI l3, x4] [] 137 h := by
  refine s_fgt (fgt_c (fgt_n _ (fgt_n _ (fgt_c (fgt_n _ fgt_0))))) ?_
  refine s_aload_n (x := 1) dX11_heard_91 rfl ?_
  refine s_getFd (c := 1) (d := 51) dX11_heard_92 lX11_65 e1 (Or.inl rfl) (by decide) (by decide) ?_
  refine s_iload_n (x := l3) dX11_heard_95 rfl ?_
  exact s_callV (as := [zI l3]) (st := []) (o := 51) dX11_heard_96 kX11_223 rfl ⟨4, 9, TX4, e51, rfl, by decide⟩ rfl rfl (Nat.le_of_ble_eq_true rfl) hS (show fr - 1 + 1 ≤ fr by omega) (Nat.zero_le _) (Nat.zero_le _) (fun v n' h' hP _ => by obtain ⟨x, e, rfl, hR⟩ := hP; cases e; exact kk x h' hR) (fun E n' h' _ z => (rI_nt _ _ _ z).elim)
theorem bX11_heard_99 {fr M1 M2 b1 b2 : Nat} {Q : RS → Nat → AH → Prop} {h : AH} {s0 : Int} {x0 x1 x2 x3 x4 : AV}   (hq : Q (.inl (some (zI s0))) 137 h) : Wp mX11_heard (kR fr M1 M2) Q (b1, b2) 99 [x0, x1, x2, x3, x4] [zI s0] 137 h := by
  refine s_fgt (fgt_n _ (fgt_n _ (fgt_n _ (fgt_n _ (fgt_n _ fgt_0))))) ?_
  exact s_ireturn dX11_heard_99 ⟨.int, rfl, rfl⟩ hq (fun z => by cases z)
theorem dX11_loud_0 : decode mX11_loud.cd 0 = .ok (.aload_n 0, 1) := by decide +kernel
theorem dX11_loud_1 : decode mX11_loud.cd 1 = .ok (.iload_n 1, 1) := by decide +kernel
theorem dX11_loud_2 : decode mX11_loud.cd 2 = .ok (.iload_n 2, 1) := by decide +kernel
theorem dX11_loud_3 : decode mX11_loud.cd 3 = .ok (.iload_n 3, 1) := by decide +kernel
theorem dX11_loud_4 : decode mX11_loud.cd 4 = .ok (.invokevirtual 193, 3) := by decide +kernel
theorem dX11_loud_7 : decode mX11_loud.cd 7 = .ok (.aload_n 0, 1) := by decide +kernel
theorem dX11_loud_8 : decode mX11_loud.cd 8 = .ok (.iload 4, 2) := by decide +kernel
theorem dX11_loud_10 : decode mX11_loud.cd 10 = .ok (.invokevirtual 183, 3) := by decide +kernel
theorem dX11_loud_13 : decode mX11_loud.cd 13 = .ok (.aload_n 0, 1) := by decide +kernel
theorem dX11_loud_14 : decode mX11_loud.cd 14 = .ok (.getfield 58, 3) := by decide +kernel
theorem dX11_loud_17 : decode mX11_loud.cd 17 = .ok (.aload_n 0, 1) := by decide +kernel
theorem dX11_loud_18 : decode mX11_loud.cd 18 = .ok (.getfield 27, 3) := by decide +kernel
theorem dX11_loud_21 : decode mX11_loud.cd 21 = .ok (.iload_n 1, 1) := by decide +kernel
theorem dX11_loud_22 : decode mX11_loud.cd 22 = .ok (.aload_n 0, 1) := by decide +kernel
theorem dX11_loud_23 : decode mX11_loud.cd 23 = .ok (.getfield 27, 3) := by decide +kernel
theorem dX11_loud_26 : decode mX11_loud.cd 26 = .ok (.getfield 197, 3) := by decide +kernel
theorem dX11_loud_29 : decode mX11_loud.cd 29 = .ok (.iload_n 2, 1) := by decide +kernel
theorem dX11_loud_30 : decode mX11_loud.cd 30 = .ok (.iaload, 1) := by decide +kernel
theorem dX11_loud_31 : decode mX11_loud.cd 31 = .ok (.iconst 0, 1) := by decide +kernel
theorem dX11_loud_32 : decode mX11_loud.cd 32 = .ok (.iconst (-1), 1) := by decide +kernel
theorem dX11_loud_33 : decode mX11_loud.cd 33 = .ok (.invokevirtual 200, 3) := by decide +kernel
theorem dX11_loud_36 : decode mX11_loud.cd 36 = .ok (.aload_n 0, 1) := by decide +kernel
theorem dX11_loud_37 : decode mX11_loud.cd 37 = .ok (.getfield 65, 3) := by decide +kernel
theorem dX11_loud_40 : decode mX11_loud.cd 40 = .ok (.aload_n 0, 1) := by decide +kernel
theorem dX11_loud_41 : decode mX11_loud.cd 41 = .ok (.getfield 27, 3) := by decide +kernel
theorem dX11_loud_44 : decode mX11_loud.cd 44 = .ok (.aload_n 0, 1) := by decide +kernel
theorem dX11_loud_45 : decode mX11_loud.cd 45 = .ok (.getfield 58, 3) := by decide +kernel
theorem dX11_loud_48 : decode mX11_loud.cd 48 = .ok (.aload_n 0, 1) := by decide +kernel
theorem dX11_loud_49 : decode mX11_loud.cd 49 = .ok (.getfield 37, 3) := by decide +kernel
theorem dX11_loud_52 : decode mX11_loud.cd 52 = .ok (.getfield 204, 3) := by decide +kernel
theorem dX11_loud_55 : decode mX11_loud.cd 55 = .ok (.sipush 199, 3) := by decide +kernel
theorem dX11_loud_58 : decode mX11_loud.cd 58 = .ok (.invokevirtual 207, 3) := by decide +kernel
theorem dX11_loud_61 : decode mX11_loud.cd 61 = .ok (.aload_n 0, 1) := by decide +kernel
theorem dX11_loud_62 : decode mX11_loud.cd 62 = .ok (.getfield 65, 3) := by decide +kernel
theorem dX11_loud_65 : decode mX11_loud.cd 65 = .ok (.iload_n 3, 1) := by decide +kernel
theorem dX11_loud_66 : decode mX11_loud.cd 66 = .ok (.iload 4, 2) := by decide +kernel
theorem dX11_loud_68 : decode mX11_loud.cd 68 = .ok (.invokevirtual 227, 3) := by decide +kernel
theorem dX11_loud_71 : decode mX11_loud.cd 71 = .ok (.ireturn, 1) := by decide +kernel
theorem bX11_loud_0 {fr M1 M2 b1 b2 : Nat} {Q : RS → Nat → AH → Prop} {h : AH} {l1 l2 l3 l4 : Int} {R : AH → Prop} {X : String → AH → Prop}   (hS : Sp mX11_needMoment true (fr - 1) 3 18 [zR 1, zI l1, zI l2, zI l3] 137 h (rVx R X)) (hf : 1 ≤ fr := by omega) (g1 : 3 ≤ b1 := by omega) (g2 : 18 ≤ b2 := by omega) (kk : ∀ h' : AH, R h' → Wp mX11_loud (kR fr M1 M2) Q (b1 - 3, b2 - 18) 7 [zR 1, zI l1, zI l2, zI l3, zI l4] [] 137 h') (kx : ∀ (E : String) (h' : AH), X E h' → Q (.inr E) 137 h') : Wp mX11_loud (kR fr M1 M2) Q (b1, b2) 0 [zR 1, zI l1, zI l2, zI l3, zI l4] [] 137 h := by
  refine s_aload_n (x := 1) dX11_loud_0 rfl ?_
  refine s_iload_n (x := l1) dX11_loud_1 rfl ?_
  refine s_iload_n (x := l2) dX11_loud_2 rfl ?_
  refine s_iload_n (x := l3) dX11_loud_3 rfl ?_
  exact s_callV (as := [zI l1, zI l2, zI l3]) (st := []) (o := 1) dX11_loud_4 kX11_193 rfl ⟨11, 18, TX11, e1, rfl, by decide⟩ rfl rfl (Nat.le_of_ble_eq_true rfl) hS (show fr - 1 + 1 ≤ fr by omega) g1 g2 (fun v n' h' hP _ => by
    obtain ⟨rfl, ⟨e, hR⟩ | ⟨E, e, _⟩⟩ := hP
    · cases e; exact kk h' hR
    · cases e) (fun E n' h' _ hP => by
    obtain ⟨rfl, ⟨e, _⟩ | ⟨E', e, hX⟩⟩ := hP
    · cases e
    · cases e; exact x_out rfl rfl rfl (kx E h' hX))
theorem bX11_loud_7 {fr M1 M2 b1 b2 : Nat} {Q : RS → Nat → AH → Prop} {h : AH} {l1 l2 l3 l4 : Int} {R : AH → Prop} {X : String → AH → Prop}   (hS : Sp mX11_needSound true (fr - 1) 1 6 [zR 1, zI l4] 137 h (rVx R X)) (hf : 1 ≤ fr := by omega) (g1 : 1 ≤ b1 := by omega) (g2 : 6 ≤ b2 := by omega) (kk : ∀ h' : AH, R h' → Wp mX11_loud (kR fr M1 M2) Q (b1 - 1, b2 - 6) 13 [zR 1, zI l1, zI l2, zI l3, zI l4] [] 137 h') (kx : ∀ (E : String) (h' : AH), X E h' → Q (.inr E) 137 h') : Wp mX11_loud (kR fr M1 M2) Q (b1, b2) 7 [zR 1, zI l1, zI l2, zI l3, zI l4] [] 137 h := by
  refine s_aload_n (x := 1) dX11_loud_7 rfl ?_
  refine s_iload (x := l4) dX11_loud_8 rfl ?_
  exact s_callV (as := [zI l4]) (st := []) (o := 1) dX11_loud_10 kX11_183 rfl ⟨11, 18, TX11, e1, rfl, by decide⟩ rfl rfl (Nat.le_of_ble_eq_true rfl) hS (show fr - 1 + 1 ≤ fr by omega) g1 g2 (fun v n' h' hP _ => by
    obtain ⟨rfl, ⟨e, hR⟩ | ⟨E, e, _⟩⟩ := hP
    · cases e; exact kk h' hR
    · cases e) (fun E n' h' _ hP => by
    obtain ⟨rfl, ⟨e, _⟩ | ⟨E', e, hX⟩⟩ := hP
    · cases e
    · cases e; exact x_out rfl rfl rfl (kx E h' hX))
theorem bX11_loud_13 {fr M1 M2 b1 b2 : Nat} {Q : RS → Nat → AH → Prop} {h : AH} {l1 l2 l3 l4 : Int} {R : AH → Prop} (c1 : cel 137 (h 1 4) (2, 21) := by first | assumption | omega) (r1 : 0 ≤ l2 ∧ l2 < 24 := by omega) (hS : Sp mX7_build true (fr - 1) 0 0 [zR 47, zR (h 1 4), zI l1, zI (h ((h 1 4) + 9) l2), zI 0, zI (-1)] 137 h (rV R)) (hf : 1 ≤ fr := by omega) (kk : ∀ h' : AH, R h' → Wp mX11_loud (kR fr M1 M2) Q (b1, b2) 36 [zR 1, zI l1, zI l2, zI l3, zI l4] [] 137 h') : Wp mX11_loud (kR fr M1 M2) Q (b1, b2) 13 [zR 1, zI l1, zI l2, zI l3, zI l4] [] 137 h := by
  refine s_aload_n (x := 1) dX11_loud_13 rfl ?_
  refine s_getFd (c := 1) (d := 47) dX11_loud_14 lX11_58 e1 (Or.inl rfl) (by decide) (by decide) ?_
  refine s_aload_n (x := 1) dX11_loud_17 rfl ?_
  refine s_getR (c := 1) dX11_loud_18 lX11_27 e1 rfl ?_
  refine s_iload_n (x := l1) dX11_loud_21 rfl ?_
  refine s_aload_n (x := 1) dX11_loud_22 rfl ?_
  refine s_getR (c := 1) dX11_loud_23 lX11_27 e1 rfl ?_
  refine s_getFd (c := h 1 4) (d := (h 1 4) + 9) dX11_loud_26 lX11_197 c1 (Or.inl rfl) rfl (ne0 (fin_X2_15 c1)) ?_
  refine s_iload_n (x := l2) dX11_loud_29 rfl ?_
  refine s_iald (c := (h 1 4) + 9) (i := l2) dX11_loud_30 (fin_X2_15 c1) r1.1 r1.2 ?_
  refine s_iconst dX11_loud_31 ?_
  refine s_iconst dX11_loud_32 ?_
  exact s_callV (as := [zR (h 1 4), zI l1, zI (h ((h 1 4) + 9) l2), zI 0, zI (-1)]) (st := []) (o := 47) dX11_loud_33 kX11_200 rfl ⟨7, 9, TX7, e47, rfl, by decide⟩ rfl rfl (Nat.le_of_ble_eq_true rfl) hS (show fr - 1 + 1 ≤ fr by omega) (Nat.zero_le _) (Nat.zero_le _) (fun v n' h' hP _ => by obtain ⟨e, rfl, hR⟩ := hP; cases e; exact kk h' hR) (fun E n' h' _ z => (rV_nt _ _ _ z).elim)
theorem bX11_loud_36 {fr M1 M2 b1 b2 : Nat} {Q : RS → Nat → AH → Prop} {h : AH} {l3 l4 : Int} {x1 x2 : AV} {R : AH → Prop}   (hS : Sp mX4_attend true (fr - 1) 0 0 [zR 51, zR (h 1 4), zR 47, zR 35, zI 199] 137 h (rV R)) (hf : 1 ≤ fr := by omega) (kk : ∀ h' : AH, R h' → Wp mX11_loud (kR fr M1 M2) Q (b1, b2) 61 [zR 1, none, none, zI l3, zI l4] [] 137 h') : Wp mX11_loud (kR fr M1 M2) Q (b1, b2) 36 [zR 1, x1, x2, zI l3, zI l4] [] 137 h := by
  refine s_fgt (fgt_c (fgt_n _ (fgt_n _ (fgt_c (fgt_c fgt_0))))) ?_
  refine s_aload_n (x := 1) dX11_loud_36 rfl ?_
  refine s_getFd (c := 1) (d := 51) dX11_loud_37 lX11_65 e1 (Or.inl rfl) (by decide) (by decide) ?_
  refine s_aload_n (x := 1) dX11_loud_40 rfl ?_
  refine s_getR (c := 1) dX11_loud_41 lX11_27 e1 rfl ?_
  refine s_aload_n (x := 1) dX11_loud_44 rfl ?_
  refine s_getFd (c := 1) (d := 47) dX11_loud_45 lX11_58 e1 (Or.inl rfl) (by decide) (by decide) ?_
  refine s_aload_n (x := 1) dX11_loud_48 rfl ?_
  refine s_getFd (c := 1) (d := 34) dX11_loud_49 lX11_37 e1 (Or.inl rfl) (by decide) (by decide) ?_
  refine s_getFd (c := 34) (d := 35) dX11_loud_52 lX11_204 e34 (Or.inl rfl) (by decide) (by decide) ?_
  refine s_sipush dX11_loud_55 (by decide) ?_
  exact s_callV (as := [zR (h 1 4), zR 47, zR 35, zI 199]) (st := []) (o := 51) dX11_loud_58 kX11_207 rfl ⟨4, 9, TX4, e51, rfl, by decide⟩ rfl rfl (Nat.le_of_ble_eq_true rfl) hS (show fr - 1 + 1 ≤ fr by omega) (Nat.zero_le _) (Nat.zero_le _) (fun v n' h' hP _ => by obtain ⟨e, rfl, hR⟩ := hP; cases e; exact kk h' hR) (fun E n' h' _ z => (rV_nt _ _ _ z).elim)
theorem bX11_loud_61 {fr M1 M2 b1 b2 : Nat} {Q : RS → Nat → AH → Prop} {h : AH} {l3 l4 : Int} {x1 x2 : AV} {R : Int → AH → Prop}   (hS : Sp mX4_loudness true (fr - 1) 0 0 [zR 51, zI l3, zI l4] 137 h (rI R)) (hf : 1 ≤ fr := by omega) (kk : ∀ (x : Int) (h' : AH), R x h' → Wp mX11_loud (kR fr M1 M2) Q (b1, b2) 71 [zR 1, none, none, zI l3, zI l4] [zI x] 137 h') : Wp mX11_loud (kR fr M1 M2) Q (b1, b2) 61 [zR 1, x1, x2, zI l3, zI l4] [] 137 h := by
  refine s_fgt (fgt_c (fgt_n _ (fgt_n _ (fgt_c (fgt_c fgt_0))))) ?_
  refine s_aload_n (x := 1) dX11_loud_61 rfl ?_
  refine s_getFd (c := 1) (d := 51) dX11_loud_62 lX11_65 e1 (Or.inl rfl) (by decide) (by decide) ?_
  refine s_iload_n (x := l3) dX11_loud_65 rfl ?_
  refine s_iload (x := l4) dX11_loud_66 rfl ?_
  exact s_callV (as := [zI l3, zI l4]) (st := []) (o := 51) dX11_loud_68 kX11_227 rfl ⟨4, 9, TX4, e51, rfl, by decide⟩ rfl rfl (Nat.le_of_ble_eq_true rfl) hS (show fr - 1 + 1 ≤ fr by omega) (Nat.zero_le _) (Nat.zero_le _) (fun v n' h' hP _ => by obtain ⟨x, e, rfl, hR⟩ := hP; cases e; exact kk x h' hR) (fun E n' h' _ z => (rI_nt _ _ _ z).elim)
theorem bX11_loud_71 {fr M1 M2 b1 b2 : Nat} {Q : RS → Nat → AH → Prop} {h : AH} {s0 : Int} {x0 x1 x2 x3 x4 : AV}   (hq : Q (.inl (some (zI s0))) 137 h) : Wp mX11_loud (kR fr M1 M2) Q (b1, b2) 71 [x0, x1, x2, x3, x4] [zI s0] 137 h := by
  refine s_fgt (fgt_n _ (fgt_n _ (fgt_n _ (fgt_n _ (fgt_n _ fgt_0))))) ?_
  exact s_ireturn dX11_loud_71 ⟨.int, rfl, rfl⟩ hq (fun z => by cases z)
theorem dX11_lines_0 : decode mX11_lines.cd 0 = .ok (.aload_n 0, 1) := by decide +kernel
theorem dX11_lines_1 : decode mX11_lines.cd 1 = .ok (.iload_n 1, 1) := by decide +kernel
theorem dX11_lines_2 : decode mX11_lines.cd 2 = .ok (.invokevirtual 230, 3) := by decide +kernel
theorem dX11_lines_5 : decode mX11_lines.cd 5 = .ok (.iload_n 2, 1) := by decide +kernel
theorem dX11_lines_6 : decode mX11_lines.cd 6 = .ok (.ifCond .lt 8, 3) := by decide +kernel
theorem dX11_lines_9 : decode mX11_lines.cd 9 = .ok (.iload_n 2, 1) := by decide +kernel
theorem dX11_lines_10 : decode mX11_lines.cd 10 = .ok (.iconst 4, 1) := by decide +kernel
theorem dX11_lines_11 : decode mX11_lines.cd 11 = .ok (.if_icmp .le 11, 3) := by decide +kernel
theorem dX11_lines_14 : decode mX11_lines.cd 14 = .ok (.new 156, 3) := by decide +kernel
theorem dX11_lines_17 : decode mX11_lines.cd 17 = .ok (.dup, 1) := by decide +kernel
theorem dX11_lines_18 : decode mX11_lines.cd 18 = .ok (.invokespecial 158, 3) := by decide +kernel
theorem dX11_lines_21 : decode mX11_lines.cd 21 = .ok (.athrow, 1) := by decide +kernel
theorem dX11_lines_22 : decode mX11_lines.cd 22 = .ok (.iload_n 2, 1) := by decide +kernel
theorem dX11_lines_23 : decode mX11_lines.cd 23 = .ok (.iconst 4, 1) := by decide +kernel
theorem dX11_lines_24 : decode mX11_lines.cd 24 = .ok (.if_icmp .ne 11, 3) := by decide +kernel
theorem dX11_lines_27 : decode mX11_lines.cd 27 = .ok (.aload_n 0, 1) := by decide +kernel
theorem dX11_lines_28 : decode mX11_lines.cd 28 = .ok (.getfield 72, 3) := by decide +kernel
theorem dX11_lines_31 : decode mX11_lines.cd 31 = .ok (.getfield 233, 3) := by decide +kernel
theorem dX11_lines_34 : decode mX11_lines.cd 34 = .ok (.ireturn, 1) := by decide +kernel
theorem dX11_lines_35 : decode mX11_lines.cd 35 = .ok (.aload_n 0, 1) := by decide +kernel
theorem dX11_lines_36 : decode mX11_lines.cd 36 = .ok (.getfield 72, 3) := by decide +kernel
theorem dX11_lines_39 : decode mX11_lines.cd 39 = .ok (.aload_n 0, 1) := by decide +kernel
theorem dX11_lines_40 : decode mX11_lines.cd 40 = .ok (.getfield 72, 3) := by decide +kernel
theorem dX11_lines_43 : decode mX11_lines.cd 43 = .ok (.iload_n 1, 1) := by decide +kernel
theorem dX11_lines_44 : decode mX11_lines.cd 44 = .ok (.aload_n 0, 1) := by decide +kernel
theorem dX11_lines_45 : decode mX11_lines.cd 45 = .ok (.getfield 65, 3) := by decide +kernel
theorem dX11_lines_48 : decode mX11_lines.cd 48 = .ok (.aload_n 0, 1) := by decide +kernel
theorem dX11_lines_49 : decode mX11_lines.cd 49 = .ok (.getfield 58, 3) := by decide +kernel
theorem dX11_lines_52 : decode mX11_lines.cd 52 = .ok (.invokevirtual 236, 3) := by decide +kernel
theorem dX11_lines_55 : decode mX11_lines.cd 55 = .ok (.iload_n 2, 1) := by decide +kernel
theorem dX11_lines_56 : decode mX11_lines.cd 56 = .ok (.invokevirtual 240, 3) := by decide +kernel
theorem dX11_lines_59 : decode mX11_lines.cd 59 = .ok (.ireturn, 1) := by decide +kernel
theorem bX11_lines_0 {fr M1 M2 b1 b2 : Nat} {Q : RS → Nat → AH → Prop} {h : AH} {l1 l2 : Int} {R : AH → Prop} {X : String → AH → Prop}   (hS : Sp mX11_needHour true (fr - 1) 1 6 [zR 1, zI l1] 137 h (rVx R X)) (hf : 1 ≤ fr := by omega) (g1 : 1 ≤ b1 := by omega) (g2 : 6 ≤ b2 := by omega) (kk : ∀ h' : AH, R h' → Wp mX11_lines (kR fr M1 M2) Q (b1 - 1, b2 - 6) 5 [zR 1, zI l1, zI l2] [] 137 h') (kx : ∀ (E : String) (h' : AH), X E h' → Q (.inr E) 137 h') : Wp mX11_lines (kR fr M1 M2) Q (b1, b2) 0 [zR 1, zI l1, zI l2] [] 137 h := by
  refine s_aload_n (x := 1) dX11_lines_0 rfl ?_
  refine s_iload_n (x := l1) dX11_lines_1 rfl ?_
  exact s_callV (as := [zI l1]) (st := []) (o := 1) dX11_lines_2 kX11_230 rfl ⟨11, 18, TX11, e1, rfl, by decide⟩ rfl rfl (Nat.le_of_ble_eq_true rfl) hS (show fr - 1 + 1 ≤ fr by omega) g1 g2 (fun v n' h' hP _ => by
    obtain ⟨rfl, ⟨e, hR⟩ | ⟨E, e, _⟩⟩ := hP
    · cases e; exact kk h' hR
    · cases e) (fun E n' h' _ hP => by
    obtain ⟨rfl, ⟨e, _⟩ | ⟨E', e, hX⟩⟩ := hP
    · cases e
    · cases e; exact x_out rfl rfl rfl (kx E h' hX))
theorem bX11_lines_5 {fr M1 M2 b1 b2 : Nat} {Q : RS → Nat → AH → Prop} {h : AH} {l1 l2 : Int}  (r1 : -2147483648 ≤ l2 ∧ l2 < 2147483648 := by omega) (kt : l2 < 0 → Wp mX11_lines (kR fr M1 M2) Q (b1, b2) 14 [zR 1, zI l1, zI l2] [] 137 h) (kf : 0 ≤ l2 → Wp mX11_lines (kR fr M1 M2) Q (b1, b2) 9 [zR 1, zI l1, zI l2] [] 137 h) : Wp mX11_lines (kR fr M1 M2) Q (b1, b2) 5 [zR 1, zI l1, zI l2] [] 137 h := by
  refine s_iload_n (x := l2) dX11_lines_5 rfl ?_
  exact s_if_lt (tgt := 14) dX11_lines_6 (by decide) r1 kt kf
theorem bX11_lines_9 {fr M1 M2 b1 b2 : Nat} {Q : RS → Nat → AH → Prop} {h : AH} {l1 l2 : Int}  (r1 : -2147483648 ≤ l2 ∧ l2 < 2147483648 := by omega) (kt : l2 ≤ 4 → Wp mX11_lines (kR fr M1 M2) Q (b1, b2) 22 [zR 1, zI l1, zI l2] [] 137 h) (kf : 4 < l2 → Wp mX11_lines (kR fr M1 M2) Q (b1, b2) 14 [zR 1, zI l1, zI l2] [] 137 h) : Wp mX11_lines (kR fr M1 M2) Q (b1, b2) 9 [zR 1, zI l1, zI l2] [] 137 h := by
  refine s_iload_n (x := l2) dX11_lines_9 rfl ?_
  refine s_iconst dX11_lines_10 ?_
  exact s_icmp_le (tgt := 22) dX11_lines_11 (by decide) r1 ⟨by decide, by decide⟩ kt kf
theorem bX11_lines_14 {fr M1 M2 b1 b2 : Nat} {Q : RS → Nat → AH → Prop} {h : AH} {x0 x1 x2 : AV}   (f8 : 8 ≤ fr := by omega) (g1 : 1 ≤ b1 := by omega) (g2 : 6 ≤ b2 := by omega) (hq : Q (.inr "java/util/NoSuchElementException") 137 h) : Wp mX11_lines (kR fr M1 M2) Q (b1, b2) 14 [x0, x1, x2] [] 137 h := by
  refine s_fgt (fgt_n _ (fgt_n _ (fgt_n _ fgt_0))) ?_
  exact s_throw (Or.inr ⟨rfl, rfl, rfl⟩) rfl dX11_lines_14 dX11_lines_17 dX11_lines_18 dX11_lines_21 rfl rfl rfl f8 (Nat.le_of_ble_eq_true rfl) g1 g2 wd860 wd24 hq
theorem bX11_lines_22 {fr M1 M2 b1 b2 : Nat} {Q : RS → Nat → AH → Prop} {h : AH} {l1 l2 : Int}  (r1 : -2147483648 ≤ l2 ∧ l2 < 2147483648 := by omega) (kt : ¬ l2 = 4 → Wp mX11_lines (kR fr M1 M2) Q (b1, b2) 35 [zR 1, zI l1, zI l2] [] 137 h) (kf : l2 = 4 → Wp mX11_lines (kR fr M1 M2) Q (b1, b2) 27 [zR 1, zI l1, zI l2] [] 137 h) : Wp mX11_lines (kR fr M1 M2) Q (b1, b2) 22 [zR 1, zI l1, zI l2] [] 137 h := by
  refine s_iload_n (x := l2) dX11_lines_22 rfl ?_
  refine s_iconst dX11_lines_23 ?_
  exact s_icmp_ne (tgt := 35) dX11_lines_24 (by decide) r1 ⟨by decide, by decide⟩ kt kf
theorem bX11_lines_27 {fr M1 M2 b1 b2 : Nat} {Q : RS → Nat → AH → Prop} {h : AH} {x1 x2 : AV}   (hq : Q (.inl (some (zI (h 55 2)))) 137 h) : Wp mX11_lines (kR fr M1 M2) Q (b1, b2) 27 [zR 1, x1, x2] [] 137 h := by
  refine s_fgt (fgt_c (fgt_n _ (fgt_n _ fgt_0))) ?_
  refine s_aload_n (x := 1) dX11_lines_27 rfl ?_
  refine s_getFd (c := 1) (d := 55) dX11_lines_28 lX11_72 e1 (Or.inl rfl) (by decide) (by decide) ?_
  refine s_get (c := 55) dX11_lines_31 lX11_233 e55 (by decide) ?_
  exact s_ireturn dX11_lines_34 ⟨.int, rfl, rfl⟩ hq (fun z => by cases z)
theorem bX11_lines_35 {fr M1 M2 b1 b2 : Nat} {Q : RS → Nat → AH → Prop} {h : AH} {l1 l2 : Int} {R : Int → AH → Prop}   (hS : Sp mX10_survey true (fr - 1) 0 0 [zR 55, zI l1, zR 51, zR 47] 137 h (rI R)) (hf : 1 ≤ fr := by omega) (kk : ∀ (x : Int) (h' : AH), R x h' → Wp mX11_lines (kR fr M1 M2) Q (b1, b2) 55 [zR 1, zI l1, zI l2] [zI x, zR 55] 137 h') : Wp mX11_lines (kR fr M1 M2) Q (b1, b2) 35 [zR 1, zI l1, zI l2] [] 137 h := by
  refine s_aload_n (x := 1) dX11_lines_35 rfl ?_
  refine s_getFd (c := 1) (d := 55) dX11_lines_36 lX11_72 e1 (Or.inl rfl) (by decide) (by decide) ?_
  refine s_aload_n (x := 1) dX11_lines_39 rfl ?_
  refine s_getFd (c := 1) (d := 55) dX11_lines_40 lX11_72 e1 (Or.inl rfl) (by decide) (by decide) ?_
  refine s_iload_n (x := l1) dX11_lines_43 rfl ?_
  refine s_aload_n (x := 1) dX11_lines_44 rfl ?_
  refine s_getFd (c := 1) (d := 51) dX11_lines_45 lX11_65 e1 (Or.inl rfl) (by decide) (by decide) ?_
  refine s_aload_n (x := 1) dX11_lines_48 rfl ?_
  refine s_getFd (c := 1) (d := 47) dX11_lines_49 lX11_58 e1 (Or.inl rfl) (by decide) (by decide) ?_
  exact s_callV (as := [zI l1, zR 51, zR 47]) (st := [zR 55]) (o := 55) dX11_lines_52 kX11_236 rfl ⟨10, 16, TX10, e55, rfl, by decide⟩ rfl rfl (Nat.le_of_ble_eq_true rfl) hS (show fr - 1 + 1 ≤ fr by omega) (Nat.zero_le _) (Nat.zero_le _) (fun v n' h' hP _ => by obtain ⟨x, e, rfl, hR⟩ := hP; cases e; exact kk x h' hR) (fun E n' h' _ z => (rI_nt _ _ _ z).elim)
theorem bX11_lines_55 {fr M1 M2 b1 b2 : Nat} {Q : RS → Nat → AH → Prop} {h : AH} {l2 s0 : Int} {x0 x1 : AV} {R : Int → AH → Prop}   (hS : Sp mX10_figure true (fr - 1) 0 0 [zR 55, zI s0, zI l2] 137 h (rI R)) (hf : 1 ≤ fr := by omega) (kk : ∀ (x : Int) (h' : AH), R x h' → Wp mX11_lines (kR fr M1 M2) Q (b1, b2) 59 [none, none, zI l2] [zI x] 137 h') : Wp mX11_lines (kR fr M1 M2) Q (b1, b2) 55 [x0, x1, zI l2] [zI s0, zR 55] 137 h := by
  refine s_fgt (fgt_n _ (fgt_n _ (fgt_c fgt_0))) ?_
  refine s_iload_n (x := l2) dX11_lines_55 rfl ?_
  exact s_callV (as := [zI s0, zI l2]) (st := []) (o := 55) dX11_lines_56 kX11_240 rfl ⟨10, 16, TX10, e55, rfl, by decide⟩ rfl rfl (Nat.le_of_ble_eq_true rfl) hS (show fr - 1 + 1 ≤ fr by omega) (Nat.zero_le _) (Nat.zero_le _) (fun v n' h' hP _ => by obtain ⟨x, e, rfl, hR⟩ := hP; cases e; exact kk x h' hR) (fun E n' h' _ z => (rI_nt _ _ _ z).elim)
theorem bX11_lines_59 {fr M1 M2 b1 b2 : Nat} {Q : RS → Nat → AH → Prop} {h : AH} {s0 : Int} {x0 x1 x2 : AV}   (hq : Q (.inl (some (zI s0))) 137 h) : Wp mX11_lines (kR fr M1 M2) Q (b1, b2) 59 [x0, x1, x2] [zI s0] 137 h := by
  refine s_fgt (fgt_n _ (fgt_n _ (fgt_n _ fgt_0))) ?_
  exact s_ireturn dX11_lines_59 ⟨.int, rfl, rfl⟩ hq (fun z => by cases z)
theorem dX11_line_0 : decode mX11_line.cd 0 = .ok (.aload_n 0, 1) := by decide +kernel
theorem dX11_line_1 : decode mX11_line.cd 1 = .ok (.iload_n 1, 1) := by decide +kernel
theorem dX11_line_2 : decode mX11_line.cd 2 = .ok (.invokevirtual 230, 3) := by decide +kernel
theorem dX11_line_5 : decode mX11_line.cd 5 = .ok (.iload_n 3, 1) := by decide +kernel
theorem dX11_line_6 : decode mX11_line.cd 6 = .ok (.ifCond .lt 8, 3) := by decide +kernel
theorem dX11_line_9 : decode mX11_line.cd 9 = .ok (.iload_n 3, 1) := by decide +kernel
theorem dX11_line_10 : decode mX11_line.cd 10 = .ok (.iconst 3, 1) := by decide +kernel
theorem dX11_line_11 : decode mX11_line.cd 11 = .ok (.if_icmp .le 11, 3) := by decide +kernel
theorem dX11_line_14 : decode mX11_line.cd 14 = .ok (.new 156, 3) := by decide +kernel
theorem dX11_line_17 : decode mX11_line.cd 17 = .ok (.dup, 1) := by decide +kernel
theorem dX11_line_18 : decode mX11_line.cd 18 = .ok (.invokespecial 158, 3) := by decide +kernel
theorem dX11_line_21 : decode mX11_line.cd 21 = .ok (.athrow, 1) := by decide +kernel
theorem dX11_line_22 : decode mX11_line.cd 22 = .ok (.aload_n 0, 1) := by decide +kernel
theorem dX11_line_23 : decode mX11_line.cd 23 = .ok (.getfield 72, 3) := by decide +kernel
theorem dX11_line_26 : decode mX11_line.cd 26 = .ok (.aload_n 0, 1) := by decide +kernel
theorem dX11_line_27 : decode mX11_line.cd 27 = .ok (.getfield 72, 3) := by decide +kernel
theorem dX11_line_30 : decode mX11_line.cd 30 = .ok (.iload_n 1, 1) := by decide +kernel
theorem dX11_line_31 : decode mX11_line.cd 31 = .ok (.aload_n 0, 1) := by decide +kernel
theorem dX11_line_32 : decode mX11_line.cd 32 = .ok (.getfield 65, 3) := by decide +kernel
theorem dX11_line_35 : decode mX11_line.cd 35 = .ok (.aload_n 0, 1) := by decide +kernel
theorem dX11_line_36 : decode mX11_line.cd 36 = .ok (.getfield 58, 3) := by decide +kernel
theorem dX11_line_39 : decode mX11_line.cd 39 = .ok (.invokevirtual 236, 3) := by decide +kernel
theorem dX11_line_42 : decode mX11_line.cd 42 = .ok (.iload_n 2, 1) := by decide +kernel
theorem dX11_line_43 : decode mX11_line.cd 43 = .ok (.invokevirtual 243, 3) := by decide +kernel
theorem dX11_line_46 : decode mX11_line.cd 46 = .ok (.istore 4, 2) := by decide +kernel
theorem dX11_line_48 : decode mX11_line.cd 48 = .ok (.iload 4, 2) := by decide +kernel
theorem dX11_line_50 : decode mX11_line.cd 50 = .ok (.iconst (-1), 1) := by decide +kernel
theorem dX11_line_51 : decode mX11_line.cd 51 = .ok (.if_icmp .ne 11, 3) := by decide +kernel
theorem dX11_line_54 : decode mX11_line.cd 54 = .ok (.new 156, 3) := by decide +kernel
theorem dX11_line_57 : decode mX11_line.cd 57 = .ok (.dup, 1) := by decide +kernel
theorem dX11_line_58 : decode mX11_line.cd 58 = .ok (.invokespecial 158, 3) := by decide +kernel
theorem dX11_line_61 : decode mX11_line.cd 61 = .ok (.athrow, 1) := by decide +kernel
theorem dX11_line_62 : decode mX11_line.cd 62 = .ok (.aload_n 0, 1) := by decide +kernel
theorem dX11_line_63 : decode mX11_line.cd 63 = .ok (.getfield 72, 3) := by decide +kernel
theorem dX11_line_66 : decode mX11_line.cd 66 = .ok (.iload 4, 2) := by decide +kernel
theorem dX11_line_68 : decode mX11_line.cd 68 = .ok (.iload_n 3, 1) := by decide +kernel
theorem dX11_line_69 : decode mX11_line.cd 69 = .ok (.invokevirtual 246, 3) := by decide +kernel
theorem dX11_line_72 : decode mX11_line.cd 72 = .ok (.ireturn, 1) := by decide +kernel
theorem bX11_line_0 {fr M1 M2 b1 b2 : Nat} {Q : RS → Nat → AH → Prop} {h : AH} {l1 l2 l3 : Int} {x4 : AV} {R : AH → Prop} {X : String → AH → Prop}   (hS : Sp mX11_needHour true (fr - 1) 1 6 [zR 1, zI l1] 137 h (rVx R X)) (hf : 1 ≤ fr := by omega) (g1 : 1 ≤ b1 := by omega) (g2 : 6 ≤ b2 := by omega) (kk : ∀ h' : AH, R h' → Wp mX11_line (kR fr M1 M2) Q (b1 - 1, b2 - 6) 5 [zR 1, zI l1, zI l2, zI l3, none] [] 137 h') (kx : ∀ (E : String) (h' : AH), X E h' → Q (.inr E) 137 h') : Wp mX11_line (kR fr M1 M2) Q (b1, b2) 0 [zR 1, zI l1, zI l2, zI l3, x4] [] 137 h := by
  refine s_fgt (fgt_c (fgt_c (fgt_c (fgt_c (fgt_n _ fgt_0))))) ?_
  refine s_aload_n (x := 1) dX11_line_0 rfl ?_
  refine s_iload_n (x := l1) dX11_line_1 rfl ?_
  exact s_callV (as := [zI l1]) (st := []) (o := 1) dX11_line_2 kX11_230 rfl ⟨11, 18, TX11, e1, rfl, by decide⟩ rfl rfl (Nat.le_of_ble_eq_true rfl) hS (show fr - 1 + 1 ≤ fr by omega) g1 g2 (fun v n' h' hP _ => by
    obtain ⟨rfl, ⟨e, hR⟩ | ⟨E, e, _⟩⟩ := hP
    · cases e; exact kk h' hR
    · cases e) (fun E n' h' _ hP => by
    obtain ⟨rfl, ⟨e, _⟩ | ⟨E', e, hX⟩⟩ := hP
    · cases e
    · cases e; exact x_out rfl rfl rfl (kx E h' hX))
theorem bX11_line_5 {fr M1 M2 b1 b2 : Nat} {Q : RS → Nat → AH → Prop} {h : AH} {l1 l2 l3 : Int} {x4 : AV}  (r1 : -2147483648 ≤ l3 ∧ l3 < 2147483648 := by omega) (kt : l3 < 0 → Wp mX11_line (kR fr M1 M2) Q (b1, b2) 14 [zR 1, zI l1, zI l2, zI l3, none] [] 137 h) (kf : 0 ≤ l3 → Wp mX11_line (kR fr M1 M2) Q (b1, b2) 9 [zR 1, zI l1, zI l2, zI l3, none] [] 137 h) : Wp mX11_line (kR fr M1 M2) Q (b1, b2) 5 [zR 1, zI l1, zI l2, zI l3, x4] [] 137 h := by
  refine s_fgt (fgt_c (fgt_c (fgt_c (fgt_c (fgt_n _ fgt_0))))) ?_
  refine s_iload_n (x := l3) dX11_line_5 rfl ?_
  exact s_if_lt (tgt := 14) dX11_line_6 (by decide) r1 kt kf
theorem bX11_line_9 {fr M1 M2 b1 b2 : Nat} {Q : RS → Nat → AH → Prop} {h : AH} {l1 l2 l3 : Int} {x4 : AV}  (r1 : -2147483648 ≤ l3 ∧ l3 < 2147483648 := by omega) (kt : l3 ≤ 3 → Wp mX11_line (kR fr M1 M2) Q (b1, b2) 22 [zR 1, zI l1, zI l2, zI l3, none] [] 137 h) (kf : 3 < l3 → Wp mX11_line (kR fr M1 M2) Q (b1, b2) 14 [zR 1, zI l1, zI l2, zI l3, none] [] 137 h) : Wp mX11_line (kR fr M1 M2) Q (b1, b2) 9 [zR 1, zI l1, zI l2, zI l3, x4] [] 137 h := by
  refine s_fgt (fgt_c (fgt_c (fgt_c (fgt_c (fgt_n _ fgt_0))))) ?_
  refine s_iload_n (x := l3) dX11_line_9 rfl ?_
  refine s_iconst dX11_line_10 ?_
  exact s_icmp_le (tgt := 22) dX11_line_11 (by decide) r1 ⟨by decide, by decide⟩ kt kf
theorem bX11_line_14 {fr M1 M2 b1 b2 : Nat} {Q : RS → Nat → AH → Prop} {h : AH} {x0 x1 x2 x3 x4 : AV}   (f8 : 8 ≤ fr := by omega) (g1 : 1 ≤ b1 := by omega) (g2 : 6 ≤ b2 := by omega) (hq : Q (.inr "java/util/NoSuchElementException") 137 h) : Wp mX11_line (kR fr M1 M2) Q (b1, b2) 14 [x0, x1, x2, x3, x4] [] 137 h := by
  refine s_fgt (fgt_n _ (fgt_n _ (fgt_n _ (fgt_n _ (fgt_n _ fgt_0))))) ?_
  exact s_throw (Or.inr ⟨rfl, rfl, rfl⟩) rfl dX11_line_14 dX11_line_17 dX11_line_18 dX11_line_21 rfl rfl rfl f8 (Nat.le_of_ble_eq_true rfl) g1 g2 wd860 wd24 hq
theorem bX11_line_22 {fr M1 M2 b1 b2 : Nat} {Q : RS → Nat → AH → Prop} {h : AH} {l1 l2 l3 : Int} {x4 : AV} {R : Int → AH → Prop}   (hS : Sp mX10_survey true (fr - 1) 0 0 [zR 55, zI l1, zR 51, zR 47] 137 h (rI R)) (hf : 1 ≤ fr := by omega) (kk : ∀ (x : Int) (h' : AH), R x h' → Wp mX11_line (kR fr M1 M2) Q (b1, b2) 42 [zR 1, zI l1, zI l2, zI l3, none] [zI x, zR 55] 137 h') : Wp mX11_line (kR fr M1 M2) Q (b1, b2) 22 [zR 1, zI l1, zI l2, zI l3, x4] [] 137 h := by
  refine s_fgt (fgt_c (fgt_c (fgt_c (fgt_c (fgt_n _ fgt_0))))) ?_
  refine s_aload_n (x := 1) dX11_line_22 rfl ?_
  refine s_getFd (c := 1) (d := 55) dX11_line_23 lX11_72 e1 (Or.inl rfl) (by decide) (by decide) ?_
  refine s_aload_n (x := 1) dX11_line_26 rfl ?_
  refine s_getFd (c := 1) (d := 55) dX11_line_27 lX11_72 e1 (Or.inl rfl) (by decide) (by decide) ?_
  refine s_iload_n (x := l1) dX11_line_30 rfl ?_
  refine s_aload_n (x := 1) dX11_line_31 rfl ?_
  refine s_getFd (c := 1) (d := 51) dX11_line_32 lX11_65 e1 (Or.inl rfl) (by decide) (by decide) ?_
  refine s_aload_n (x := 1) dX11_line_35 rfl ?_
  refine s_getFd (c := 1) (d := 47) dX11_line_36 lX11_58 e1 (Or.inl rfl) (by decide) (by decide) ?_
  exact s_callV (as := [zI l1, zR 51, zR 47]) (st := [zR 55]) (o := 55) dX11_line_39 kX11_236 rfl ⟨10, 16, TX10, e55, rfl, by decide⟩ rfl rfl (Nat.le_of_ble_eq_true rfl) hS (show fr - 1 + 1 ≤ fr by omega) (Nat.zero_le _) (Nat.zero_le _) (fun v n' h' hP _ => by obtain ⟨x, e, rfl, hR⟩ := hP; cases e; exact kk x h' hR) (fun E n' h' _ z => (rI_nt _ _ _ z).elim)
theorem bX11_line_42 {fr M1 M2 b1 b2 : Nat} {Q : RS → Nat → AH → Prop} {h : AH} {l2 l3 s0 : Int} {x1 x4 : AV} {R : Int → AH → Prop}   (hS : Sp mX10_answering true (fr - 1) 0 0 [zR 55, zI s0, zI l2] 137 h (rI R)) (hf : 1 ≤ fr := by omega) (kk : ∀ (x : Int) (h' : AH), R x h' → Wp mX11_line (kR fr M1 M2) Q (b1, b2) 46 [zR 1, none, zI l2, zI l3, none] [zI x] 137 h') : Wp mX11_line (kR fr M1 M2) Q (b1, b2) 42 [zR 1, x1, zI l2, zI l3, x4] [zI s0, zR 55] 137 h := by
  refine s_fgt (fgt_c (fgt_n _ (fgt_c (fgt_c (fgt_n _ fgt_0))))) ?_
  refine s_iload_n (x := l2) dX11_line_42 rfl ?_
  exact s_callV (as := [zI s0, zI l2]) (st := []) (o := 55) dX11_line_43 kX11_243 rfl ⟨10, 16, TX10, e55, rfl, by decide⟩ rfl rfl (Nat.le_of_ble_eq_true rfl) hS (show fr - 1 + 1 ≤ fr by omega) (Nat.zero_le _) (Nat.zero_le _) (fun v n' h' hP _ => by obtain ⟨x, e, rfl, hR⟩ := hP; cases e; exact kk x h' hR) (fun E n' h' _ z => (rI_nt _ _ _ z).elim)
theorem bX11_line_46 {fr M1 M2 b1 b2 : Nat} {Q : RS → Nat → AH → Prop} {h : AH} {l3 s0 : Int} {x1 x2 x4 : AV}  (r1 : -2147483648 ≤ s0 ∧ s0 < 2147483648 := by omega) (kt : ¬ s0 = (-1) → Wp mX11_line (kR fr M1 M2) Q (b1, b2) 62 [zR 1, none, none, zI l3, zI s0] [] 137 h) (kf : s0 = (-1) → Wp mX11_line (kR fr M1 M2) Q (b1, b2) 54 [zR 1, none, none, zI l3, zI s0] [] 137 h) : Wp mX11_line (kR fr M1 M2) Q (b1, b2) 46 [zR 1, x1, x2, zI l3, x4] [zI s0] 137 h := by
  refine s_fgt (fgt_c (fgt_n _ (fgt_n _ (fgt_c (fgt_n _ fgt_0))))) ?_
  refine s_istore dX11_line_46 rfl (by decide) ?_
  refine s_iload (x := s0) dX11_line_48 rfl ?_
  refine s_iconst dX11_line_50 ?_
  exact s_icmp_ne (tgt := 62) dX11_line_51 (by decide) r1 ⟨by decide, by decide⟩ kt kf
theorem bX11_line_54 {fr M1 M2 b1 b2 : Nat} {Q : RS → Nat → AH → Prop} {h : AH} {x0 x1 x2 x3 x4 : AV}   (f8 : 8 ≤ fr := by omega) (g1 : 1 ≤ b1 := by omega) (g2 : 6 ≤ b2 := by omega) (hq : Q (.inr "java/util/NoSuchElementException") 137 h) : Wp mX11_line (kR fr M1 M2) Q (b1, b2) 54 [x0, x1, x2, x3, x4] [] 137 h := by
  refine s_fgt (fgt_n _ (fgt_n _ (fgt_n _ (fgt_n _ (fgt_n _ fgt_0))))) ?_
  exact s_throw (Or.inr ⟨rfl, rfl, rfl⟩) rfl dX11_line_54 dX11_line_57 dX11_line_58 dX11_line_61 rfl rfl rfl f8 (Nat.le_of_ble_eq_true rfl) g1 g2 wd860 wd24 hq
theorem bX11_line_62 {fr M1 M2 b1 b2 : Nat} {Q : RS → Nat → AH → Prop} {h : AH} {l3 l4 : Int} {x1 x2 : AV} {R : Int → AH → Prop}   (hS : Sp mX10_partOf true (fr - 1) 0 0 [zR 55, zI l4, zI l3] 137 h (rI R)) (hf : 1 ≤ fr := by omega) (kk : ∀ (x : Int) (h' : AH), R x h' → Wp mX11_line (kR fr M1 M2) Q (b1, b2) 72 [zR 1, none, none, zI l3, zI l4] [zI x] 137 h') : Wp mX11_line (kR fr M1 M2) Q (b1, b2) 62 [zR 1, x1, x2, zI l3, zI l4] [] 137 h := by
  refine s_fgt (fgt_c (fgt_n _ (fgt_n _ (fgt_c (fgt_c fgt_0))))) ?_
  refine s_aload_n (x := 1) dX11_line_62 rfl ?_
  refine s_getFd (c := 1) (d := 55) dX11_line_63 lX11_72 e1 (Or.inl rfl) (by decide) (by decide) ?_
  refine s_iload (x := l4) dX11_line_66 rfl ?_
  refine s_iload_n (x := l3) dX11_line_68 rfl ?_
  exact s_callV (as := [zI l4, zI l3]) (st := []) (o := 55) dX11_line_69 kX11_246 rfl ⟨10, 16, TX10, e55, rfl, by decide⟩ rfl rfl (Nat.le_of_ble_eq_true rfl) hS (show fr - 1 + 1 ≤ fr by omega) (Nat.zero_le _) (Nat.zero_le _) (fun v n' h' hP _ => by obtain ⟨x, e, rfl, hR⟩ := hP; cases e; exact kk x h' hR) (fun E n' h' _ z => (rI_nt _ _ _ z).elim)
theorem bX11_line_72 {fr M1 M2 b1 b2 : Nat} {Q : RS → Nat → AH → Prop} {h : AH} {s0 : Int} {x0 x1 x2 x3 x4 : AV}   (hq : Q (.inl (some (zI s0))) 137 h) : Wp mX11_line (kR fr M1 M2) Q (b1, b2) 72 [x0, x1, x2, x3, x4] [zI s0] 137 h := by
  refine s_fgt (fgt_n _ (fgt_n _ (fgt_n _ (fgt_n _ (fgt_n _ fgt_0))))) ?_
  exact s_ireturn dX11_line_72 ⟨.int, rfl, rfl⟩ hq (fun z => by cases z)
theorem dX11_still_0 : decode mX11_still.cd 0 = .ok (.aload_n 0, 1) := by decide +kernel
theorem dX11_still_1 : decode mX11_still.cd 1 = .ok (.iload_n 1, 1) := by decide +kernel
theorem dX11_still_2 : decode mX11_still.cd 2 = .ok (.invokevirtual 230, 3) := by decide +kernel
theorem dX11_still_5 : decode mX11_still.cd 5 = .ok (.iload_n 2, 1) := by decide +kernel
theorem dX11_still_6 : decode mX11_still.cd 6 = .ok (.ifCond .lt 9, 3) := by decide +kernel
theorem dX11_still_9 : decode mX11_still.cd 9 = .ok (.iload_n 2, 1) := by decide +kernel
theorem dX11_still_10 : decode mX11_still.cd 10 = .ok (.bipush 100, 2) := by decide +kernel
theorem dX11_still_12 : decode mX11_still.cd 12 = .ok (.if_icmp .le 11, 3) := by decide +kernel
theorem dX11_still_15 : decode mX11_still.cd 15 = .ok (.new 115, 3) := by decide +kernel
theorem dX11_still_18 : decode mX11_still.cd 18 = .ok (.dup, 1) := by decide +kernel
theorem dX11_still_19 : decode mX11_still.cd 19 = .ok (.invokespecial 117, 3) := by decide +kernel
theorem dX11_still_22 : decode mX11_still.cd 22 = .ok (.athrow, 1) := by decide +kernel
theorem dX11_still_23 : decode mX11_still.cd 23 = .ok (.aload_n 0, 1) := by decide +kernel
theorem dX11_still_24 : decode mX11_still.cd 24 = .ok (.getfield 72, 3) := by decide +kernel
theorem dX11_still_27 : decode mX11_still.cd 27 = .ok (.iload_n 1, 1) := by decide +kernel
theorem dX11_still_28 : decode mX11_still.cd 28 = .ok (.aload_n 0, 1) := by decide +kernel
theorem dX11_still_29 : decode mX11_still.cd 29 = .ok (.getfield 65, 3) := by decide +kernel
theorem dX11_still_32 : decode mX11_still.cd 32 = .ok (.aload_n 0, 1) := by decide +kernel
theorem dX11_still_33 : decode mX11_still.cd 33 = .ok (.getfield 58, 3) := by decide +kernel
theorem dX11_still_36 : decode mX11_still.cd 36 = .ok (.invokevirtual 236, 3) := by decide +kernel
theorem dX11_still_39 : decode mX11_still.cd 39 = .ok (.istore_n 3, 1) := by decide +kernel
theorem dX11_still_40 : decode mX11_still.cd 40 = .ok (.aload_n 0, 1) := by decide +kernel
theorem dX11_still_41 : decode mX11_still.cd 41 = .ok (.getfield 58, 3) := by decide +kernel
theorem dX11_still_44 : decode mX11_still.cd 44 = .ok (.aload_n 0, 1) := by decide +kernel
theorem dX11_still_45 : decode mX11_still.cd 45 = .ok (.getfield 27, 3) := by decide +kernel
theorem dX11_still_48 : decode mX11_still.cd 48 = .ok (.iconst 0, 1) := by decide +kernel
theorem dX11_still_49 : decode mX11_still.cd 49 = .ok (.aload_n 0, 1) := by decide +kernel
theorem dX11_still_50 : decode mX11_still.cd 50 = .ok (.getfield 27, 3) := by decide +kernel
theorem dX11_still_53 : decode mX11_still.cd 53 = .ok (.getfield 197, 3) := by decide +kernel
theorem dX11_still_56 : decode mX11_still.cd 56 = .ok (.iload_n 1, 1) := by decide +kernel
theorem dX11_still_57 : decode mX11_still.cd 57 = .ok (.iaload, 1) := by decide +kernel
theorem dX11_still_58 : decode mX11_still.cd 58 = .ok (.iload_n 2, 1) := by decide +kernel
theorem dX11_still_59 : decode mX11_still.cd 59 = .ok (.iconst (-1), 1) := by decide +kernel
theorem dX11_still_60 : decode mX11_still.cd 60 = .ok (.invokevirtual 200, 3) := by decide +kernel
theorem dX11_still_63 : decode mX11_still.cd 63 = .ok (.aload_n 0, 1) := by decide +kernel
theorem dX11_still_64 : decode mX11_still.cd 64 = .ok (.getfield 72, 3) := by decide +kernel
theorem dX11_still_67 : decode mX11_still.cd 67 = .ok (.iload_n 3, 1) := by decide +kernel
theorem dX11_still_68 : decode mX11_still.cd 68 = .ok (.aload_n 0, 1) := by decide +kernel
theorem dX11_still_69 : decode mX11_still.cd 69 = .ok (.getfield 65, 3) := by decide +kernel
theorem dX11_still_72 : decode mX11_still.cd 72 = .ok (.aload_n 0, 1) := by decide +kernel
theorem dX11_still_73 : decode mX11_still.cd 73 = .ok (.getfield 58, 3) := by decide +kernel
theorem dX11_still_76 : decode mX11_still.cd 76 = .ok (.aload_n 0, 1) := by decide +kernel
theorem dX11_still_77 : decode mX11_still.cd 77 = .ok (.getfield 72, 3) := by decide +kernel
theorem dX11_still_80 : decode mX11_still.cd 80 = .ok (.getfield 153, 3) := by decide +kernel
theorem dX11_still_83 : decode mX11_still.cd 83 = .ok (.invokevirtual 249, 3) := by decide +kernel
theorem dX11_still_86 : decode mX11_still.cd 86 = .ok (.ireturn, 1) := by decide +kernel
theorem bX11_still_0 {fr M1 M2 b1 b2 : Nat} {Q : RS → Nat → AH → Prop} {h : AH} {l1 l2 : Int} {x3 : AV} {R : AH → Prop} {X : String → AH → Prop}   (hS : Sp mX11_needHour true (fr - 1) 1 6 [zR 1, zI l1] 137 h (rVx R X)) (hf : 1 ≤ fr := by omega) (g1 : 1 ≤ b1 := by omega) (g2 : 6 ≤ b2 := by omega) (kk : ∀ h' : AH, R h' → Wp mX11_still (kR fr M1 M2) Q (b1 - 1, b2 - 6) 5 [zR 1, zI l1, zI l2, none] [] 137 h') (kx : ∀ (E : String) (h' : AH), X E h' → Q (.inr E) 137 h') : Wp mX11_still (kR fr M1 M2) Q (b1, b2) 0 [zR 1, zI l1, zI l2, x3] [] 137 h := by
  refine s_fgt (fgt_c (fgt_c (fgt_c (fgt_n _ fgt_0)))) ?_
  refine s_aload_n (x := 1) dX11_still_0 rfl ?_
  refine s_iload_n (x := l1) dX11_still_1 rfl ?_
  exact s_callV (as := [zI l1]) (st := []) (o := 1) dX11_still_2 kX11_230 rfl ⟨11, 18, TX11, e1, rfl, by decide⟩ rfl rfl (Nat.le_of_ble_eq_true rfl) hS (show fr - 1 + 1 ≤ fr by omega) g1 g2 (fun v n' h' hP _ => by
    obtain ⟨rfl, ⟨e, hR⟩ | ⟨E, e, _⟩⟩ := hP
    · cases e; exact kk h' hR
    · cases e) (fun E n' h' _ hP => by
    obtain ⟨rfl, ⟨e, _⟩ | ⟨E', e, hX⟩⟩ := hP
    · cases e
    · cases e; exact x_out rfl rfl rfl (kx E h' hX))
theorem bX11_still_5 {fr M1 M2 b1 b2 : Nat} {Q : RS → Nat → AH → Prop} {h : AH} {l1 l2 : Int} {x3 : AV}  (r1 : -2147483648 ≤ l2 ∧ l2 < 2147483648 := by omega) (kt : l2 < 0 → Wp mX11_still (kR fr M1 M2) Q (b1, b2) 15 [zR 1, zI l1, zI l2, none] [] 137 h) (kf : 0 ≤ l2 → Wp mX11_still (kR fr M1 M2) Q (b1, b2) 9 [zR 1, zI l1, zI l2, none] [] 137 h) : Wp mX11_still (kR fr M1 M2) Q (b1, b2) 5 [zR 1, zI l1, zI l2, x3] [] 137 h := by
  refine s_fgt (fgt_c (fgt_c (fgt_c (fgt_n _ fgt_0)))) ?_
  refine s_iload_n (x := l2) dX11_still_5 rfl ?_
  exact s_if_lt (tgt := 15) dX11_still_6 (by decide) r1 kt kf
theorem bX11_still_9 {fr M1 M2 b1 b2 : Nat} {Q : RS → Nat → AH → Prop} {h : AH} {l1 l2 : Int} {x3 : AV}  (r1 : -2147483648 ≤ l2 ∧ l2 < 2147483648 := by omega) (kt : l2 ≤ 100 → Wp mX11_still (kR fr M1 M2) Q (b1, b2) 23 [zR 1, zI l1, zI l2, none] [] 137 h) (kf : 100 < l2 → Wp mX11_still (kR fr M1 M2) Q (b1, b2) 15 [zR 1, zI l1, zI l2, none] [] 137 h) : Wp mX11_still (kR fr M1 M2) Q (b1, b2) 9 [zR 1, zI l1, zI l2, x3] [] 137 h := by
  refine s_fgt (fgt_c (fgt_c (fgt_c (fgt_n _ fgt_0)))) ?_
  refine s_iload_n (x := l2) dX11_still_9 rfl ?_
  refine s_bipush dX11_still_10 (by decide) ?_
  exact s_icmp_le (tgt := 23) dX11_still_12 (by decide) r1 ⟨by decide, by decide⟩ kt kf
theorem bX11_still_15 {fr M1 M2 b1 b2 : Nat} {Q : RS → Nat → AH → Prop} {h : AH} {x0 x1 x2 x3 : AV}   (f8 : 8 ≤ fr := by omega) (g1 : 1 ≤ b1 := by omega) (g2 : 6 ≤ b2 := by omega) (hq : Q (.inr "java/lang/IllegalArgumentException") 137 h) : Wp mX11_still (kR fr M1 M2) Q (b1, b2) 15 [x0, x1, x2, x3] [] 137 h := by
  refine s_fgt (fgt_n _ (fgt_n _ (fgt_n _ (fgt_n _ fgt_0)))) ?_
  exact s_throw (Or.inl ⟨rfl, rfl, rfl⟩) rfl dX11_still_15 dX11_still_18 dX11_still_19 dX11_still_22 rfl rfl rfl f8 (Nat.le_of_ble_eq_true rfl) g1 g2 wd637 wd18 hq
theorem bX11_still_23 {fr M1 M2 b1 b2 : Nat} {Q : RS → Nat → AH → Prop} {h : AH} {l1 l2 : Int} {x3 : AV} {R : Int → AH → Prop}   (hS : Sp mX10_survey true (fr - 1) 0 0 [zR 55, zI l1, zR 51, zR 47] 137 h (rI R)) (hf : 1 ≤ fr := by omega) (kk : ∀ (x : Int) (h' : AH), R x h' → Wp mX11_still (kR fr M1 M2) Q (b1, b2) 39 [zR 1, zI l1, zI l2, none] [zI x] 137 h') : Wp mX11_still (kR fr M1 M2) Q (b1, b2) 23 [zR 1, zI l1, zI l2, x3] [] 137 h := by
  refine s_fgt (fgt_c (fgt_c (fgt_c (fgt_n _ fgt_0)))) ?_
  refine s_aload_n (x := 1) dX11_still_23 rfl ?_
  refine s_getFd (c := 1) (d := 55) dX11_still_24 lX11_72 e1 (Or.inl rfl) (by decide) (by decide) ?_
  refine s_iload_n (x := l1) dX11_still_27 rfl ?_
  refine s_aload_n (x := 1) dX11_still_28 rfl ?_
  refine s_getFd (c := 1) (d := 51) dX11_still_29 lX11_65 e1 (Or.inl rfl) (by decide) (by decide) ?_
  refine s_aload_n (x := 1) dX11_still_32 rfl ?_
  refine s_getFd (c := 1) (d := 47) dX11_still_33 lX11_58 e1 (Or.inl rfl) (by decide) (by decide) ?_
  exact s_callV (as := [zI l1, zR 51, zR 47]) (st := []) (o := 55) dX11_still_36 kX11_236 rfl ⟨10, 16, TX10, e55, rfl, by decide⟩ rfl rfl (Nat.le_of_ble_eq_true rfl) hS (show fr - 1 + 1 ≤ fr by omega) (Nat.zero_le _) (Nat.zero_le _) (fun v n' h' hP _ => by obtain ⟨x, e, rfl, hR⟩ := hP; cases e; exact kk x h' hR) (fun E n' h' _ z => (rI_nt _ _ _ z).elim)
theorem bX11_still_39 {fr M1 M2 b1 b2 : Nat} {Q : RS → Nat → AH → Prop} {h : AH} {l1 l2 s0 : Int} {x3 : AV} {R : AH → Prop} (c1 : cel 137 (h 1 4) (2, 21) := by first | assumption | omega) (r1 : 0 ≤ l1 ∧ l1 < 24 := by omega) (hS : Sp mX7_build true (fr - 1) 0 0 [zR 47, zR (h 1 4), zI 0, zI (h ((h 1 4) + 9) l1), zI l2, zI (-1)] 137 h (rV R)) (hf : 1 ≤ fr := by omega) (kk : ∀ h' : AH, R h' → Wp mX11_still (kR fr M1 M2) Q (b1, b2) 63 [zR 1, zI l1, zI l2, zI s0] [] 137 h') : Wp mX11_still (kR fr M1 M2) Q (b1, b2) 39 [zR 1, zI l1, zI l2, x3] [zI s0] 137 h := by
  refine s_fgt (fgt_c (fgt_c (fgt_c (fgt_n _ fgt_0)))) ?_
  refine s_istore_n dX11_still_39 rfl (by decide) ?_
  refine s_aload_n (x := 1) dX11_still_40 rfl ?_
  refine s_getFd (c := 1) (d := 47) dX11_still_41 lX11_58 e1 (Or.inl rfl) (by decide) (by decide) ?_
  refine s_aload_n (x := 1) dX11_still_44 rfl ?_
  refine s_getR (c := 1) dX11_still_45 lX11_27 e1 rfl ?_
  refine s_iconst dX11_still_48 ?_
  refine s_aload_n (x := 1) dX11_still_49 rfl ?_
  refine s_getR (c := 1) dX11_still_50 lX11_27 e1 rfl ?_
  refine s_getFd (c := h 1 4) (d := (h 1 4) + 9) dX11_still_53 lX11_197 c1 (Or.inl rfl) rfl (ne0 (fin_X2_15 c1)) ?_
  refine s_iload_n (x := l1) dX11_still_56 rfl ?_
  refine s_iald (c := (h 1 4) + 9) (i := l1) dX11_still_57 (fin_X2_15 c1) r1.1 r1.2 ?_
  refine s_iload_n (x := l2) dX11_still_58 rfl ?_
  refine s_iconst dX11_still_59 ?_
  exact s_callV (as := [zR (h 1 4), zI 0, zI (h ((h 1 4) + 9) l1), zI l2, zI (-1)]) (st := []) (o := 47) dX11_still_60 kX11_200 rfl ⟨7, 9, TX7, e47, rfl, by decide⟩ rfl rfl (Nat.le_of_ble_eq_true rfl) hS (show fr - 1 + 1 ≤ fr by omega) (Nat.zero_le _) (Nat.zero_le _) (fun v n' h' hP _ => by obtain ⟨e, rfl, hR⟩ := hP; cases e; exact kk h' hR) (fun E n' h' _ z => (rV_nt _ _ _ z).elim)
theorem bX11_still_63 {fr M1 M2 b1 b2 : Nat} {Q : RS → Nat → AH → Prop} {h : AH} {l3 : Int} {x1 x2 : AV} {R : Int → AH → Prop}   (hS : Sp mX10_countStill true (fr - 1) 0 0 [zR 55, zI l3, zR 51, zR 47, zI (h 55 1)] 137 h (rI R)) (hf : 1 ≤ fr := by omega) (kk : ∀ (x : Int) (h' : AH), R x h' → Wp mX11_still (kR fr M1 M2) Q (b1, b2) 86 [zR 1, none, none, zI l3] [zI x] 137 h') : Wp mX11_still (kR fr M1 M2) Q (b1, b2) 63 [zR 1, x1, x2, zI l3] [] 137 h := by
  refine s_fgt (fgt_c (fgt_n _ (fgt_n _ (fgt_c fgt_0)))) ?_
  refine s_aload_n (x := 1) dX11_still_63 rfl ?_
  refine s_getFd (c := 1) (d := 55) dX11_still_64 lX11_72 e1 (Or.inl rfl) (by decide) (by decide) ?_
  refine s_iload_n (x := l3) dX11_still_67 rfl ?_
  refine s_aload_n (x := 1) dX11_still_68 rfl ?_
  refine s_getFd (c := 1) (d := 51) dX11_still_69 lX11_65 e1 (Or.inl rfl) (by decide) (by decide) ?_
  refine s_aload_n (x := 1) dX11_still_72 rfl ?_
  refine s_getFd (c := 1) (d := 47) dX11_still_73 lX11_58 e1 (Or.inl rfl) (by decide) (by decide) ?_
  refine s_aload_n (x := 1) dX11_still_76 rfl ?_
  refine s_getFd (c := 1) (d := 55) dX11_still_77 lX11_72 e1 (Or.inl rfl) (by decide) (by decide) ?_
  refine s_get (c := 55) dX11_still_80 lX11_153 e55 (by decide) ?_
  exact s_callV (as := [zI l3, zR 51, zR 47, zI (h 55 1)]) (st := []) (o := 55) dX11_still_83 kX11_249 rfl ⟨10, 16, TX10, e55, rfl, by decide⟩ rfl rfl (Nat.le_of_ble_eq_true rfl) hS (show fr - 1 + 1 ≤ fr by omega) (Nat.zero_le _) (Nat.zero_le _) (fun v n' h' hP _ => by obtain ⟨x, e, rfl, hR⟩ := hP; cases e; exact kk x h' hR) (fun E n' h' _ z => (rI_nt _ _ _ z).elim)
theorem bX11_still_86 {fr M1 M2 b1 b2 : Nat} {Q : RS → Nat → AH → Prop} {h : AH} {s0 : Int} {x0 x1 x2 x3 : AV}   (hq : Q (.inl (some (zI s0))) 137 h) : Wp mX11_still (kR fr M1 M2) Q (b1, b2) 86 [x0, x1, x2, x3] [zI s0] 137 h := by
  refine s_fgt (fgt_n _ (fgt_n _ (fgt_n _ (fgt_n _ fgt_0)))) ?_
  exact s_ireturn dX11_still_86 ⟨.int, rfl, rfl⟩ hq (fun z => by cases z)
theorem dX11_without_0 : decode mX11_without.cd 0 = .ok (.aload_n 0, 1) := by decide +kernel
theorem dX11_without_1 : decode mX11_without.cd 1 = .ok (.iload_n 1, 1) := by decide +kernel
theorem dX11_without_2 : decode mX11_without.cd 2 = .ok (.invokevirtual 230, 3) := by decide +kernel
theorem dX11_without_5 : decode mX11_without.cd 5 = .ok (.aload_n 0, 1) := by decide +kernel
theorem dX11_without_6 : decode mX11_without.cd 6 = .ok (.iload_n 2, 1) := by decide +kernel
theorem dX11_without_7 : decode mX11_without.cd 7 = .ok (.invokevirtual 159, 3) := by decide +kernel
theorem dX11_without_10 : decode mX11_without.cd 10 = .ok (.aload_n 0, 1) := by decide +kernel
theorem dX11_without_11 : decode mX11_without.cd 11 = .ok (.getfield 72, 3) := by decide +kernel
theorem dX11_without_14 : decode mX11_without.cd 14 = .ok (.iload_n 1, 1) := by decide +kernel
theorem dX11_without_15 : decode mX11_without.cd 15 = .ok (.aload_n 0, 1) := by decide +kernel
theorem dX11_without_16 : decode mX11_without.cd 16 = .ok (.getfield 65, 3) := by decide +kernel
theorem dX11_without_19 : decode mX11_without.cd 19 = .ok (.aload_n 0, 1) := by decide +kernel
theorem dX11_without_20 : decode mX11_without.cd 20 = .ok (.getfield 58, 3) := by decide +kernel
theorem dX11_without_23 : decode mX11_without.cd 23 = .ok (.invokevirtual 236, 3) := by decide +kernel
theorem dX11_without_26 : decode mX11_without.cd 26 = .ok (.istore_n 3, 1) := by decide +kernel
theorem dX11_without_27 : decode mX11_without.cd 27 = .ok (.aload_n 0, 1) := by decide +kernel
theorem dX11_without_28 : decode mX11_without.cd 28 = .ok (.getfield 58, 3) := by decide +kernel
theorem dX11_without_31 : decode mX11_without.cd 31 = .ok (.aload_n 0, 1) := by decide +kernel
theorem dX11_without_32 : decode mX11_without.cd 32 = .ok (.getfield 27, 3) := by decide +kernel
theorem dX11_without_35 : decode mX11_without.cd 35 = .ok (.iconst 0, 1) := by decide +kernel
theorem dX11_without_36 : decode mX11_without.cd 36 = .ok (.aload_n 0, 1) := by decide +kernel
theorem dX11_without_37 : decode mX11_without.cd 37 = .ok (.getfield 27, 3) := by decide +kernel
theorem dX11_without_40 : decode mX11_without.cd 40 = .ok (.getfield 197, 3) := by decide +kernel
theorem dX11_without_43 : decode mX11_without.cd 43 = .ok (.iload_n 1, 1) := by decide +kernel
theorem dX11_without_44 : decode mX11_without.cd 44 = .ok (.iaload, 1) := by decide +kernel
theorem dX11_without_45 : decode mX11_without.cd 45 = .ok (.iconst 0, 1) := by decide +kernel
theorem dX11_without_46 : decode mX11_without.cd 46 = .ok (.iload_n 2, 1) := by decide +kernel
theorem dX11_without_47 : decode mX11_without.cd 47 = .ok (.invokevirtual 200, 3) := by decide +kernel
theorem dX11_without_50 : decode mX11_without.cd 50 = .ok (.aload_n 0, 1) := by decide +kernel
theorem dX11_without_51 : decode mX11_without.cd 51 = .ok (.getfield 72, 3) := by decide +kernel
theorem dX11_without_54 : decode mX11_without.cd 54 = .ok (.iload_n 3, 1) := by decide +kernel
theorem dX11_without_55 : decode mX11_without.cd 55 = .ok (.aload_n 0, 1) := by decide +kernel
theorem dX11_without_56 : decode mX11_without.cd 56 = .ok (.getfield 65, 3) := by decide +kernel
theorem dX11_without_59 : decode mX11_without.cd 59 = .ok (.aload_n 0, 1) := by decide +kernel
theorem dX11_without_60 : decode mX11_without.cd 60 = .ok (.getfield 58, 3) := by decide +kernel
theorem dX11_without_63 : decode mX11_without.cd 63 = .ok (.aload_n 0, 1) := by decide +kernel
theorem dX11_without_64 : decode mX11_without.cd 64 = .ok (.getfield 72, 3) := by decide +kernel
theorem dX11_without_67 : decode mX11_without.cd 67 = .ok (.getfield 153, 3) := by decide +kernel
theorem dX11_without_70 : decode mX11_without.cd 70 = .ok (.invokevirtual 249, 3) := by decide +kernel
theorem dX11_without_73 : decode mX11_without.cd 73 = .ok (.ireturn, 1) := by decide +kernel
theorem bX11_without_0 {fr M1 M2 b1 b2 : Nat} {Q : RS → Nat → AH → Prop} {h : AH} {l1 l2 : Int} {x3 : AV} {R : AH → Prop} {X : String → AH → Prop}   (hS : Sp mX11_needHour true (fr - 1) 1 6 [zR 1, zI l1] 137 h (rVx R X)) (hf : 1 ≤ fr := by omega) (g1 : 1 ≤ b1 := by omega) (g2 : 6 ≤ b2 := by omega) (kk : ∀ h' : AH, R h' → Wp mX11_without (kR fr M1 M2) Q (b1 - 1, b2 - 6) 5 [zR 1, zI l1, zI l2, none] [] 137 h') (kx : ∀ (E : String) (h' : AH), X E h' → Q (.inr E) 137 h') : Wp mX11_without (kR fr M1 M2) Q (b1, b2) 0 [zR 1, zI l1, zI l2, x3] [] 137 h := by
  refine s_fgt (fgt_c (fgt_c (fgt_c (fgt_n _ fgt_0)))) ?_
  refine s_aload_n (x := 1) dX11_without_0 rfl ?_
  refine s_iload_n (x := l1) dX11_without_1 rfl ?_
  exact s_callV (as := [zI l1]) (st := []) (o := 1) dX11_without_2 kX11_230 rfl ⟨11, 18, TX11, e1, rfl, by decide⟩ rfl rfl (Nat.le_of_ble_eq_true rfl) hS (show fr - 1 + 1 ≤ fr by omega) g1 g2 (fun v n' h' hP _ => by
    obtain ⟨rfl, ⟨e, hR⟩ | ⟨E, e, _⟩⟩ := hP
    · cases e; exact kk h' hR
    · cases e) (fun E n' h' _ hP => by
    obtain ⟨rfl, ⟨e, _⟩ | ⟨E', e, hX⟩⟩ := hP
    · cases e
    · cases e; exact x_out rfl rfl rfl (kx E h' hX))
theorem bX11_without_5 {fr M1 M2 b1 b2 : Nat} {Q : RS → Nat → AH → Prop} {h : AH} {l1 l2 : Int} {x3 : AV} {R : AH → Prop} {X : String → AH → Prop}   (hS : Sp mX11_needWall true (fr - 1) 1 6 [zR 1, zI l2] 137 h (rVx R X)) (hf : 1 ≤ fr := by omega) (g1 : 1 ≤ b1 := by omega) (g2 : 6 ≤ b2 := by omega) (kk : ∀ h' : AH, R h' → Wp mX11_without (kR fr M1 M2) Q (b1 - 1, b2 - 6) 10 [zR 1, zI l1, zI l2, none] [] 137 h') (kx : ∀ (E : String) (h' : AH), X E h' → Q (.inr E) 137 h') : Wp mX11_without (kR fr M1 M2) Q (b1, b2) 5 [zR 1, zI l1, zI l2, x3] [] 137 h := by
  refine s_fgt (fgt_c (fgt_c (fgt_c (fgt_n _ fgt_0)))) ?_
  refine s_aload_n (x := 1) dX11_without_5 rfl ?_
  refine s_iload_n (x := l2) dX11_without_6 rfl ?_
  exact s_callV (as := [zI l2]) (st := []) (o := 1) dX11_without_7 kX11_159 rfl ⟨11, 18, TX11, e1, rfl, by decide⟩ rfl rfl (Nat.le_of_ble_eq_true rfl) hS (show fr - 1 + 1 ≤ fr by omega) g1 g2 (fun v n' h' hP _ => by
    obtain ⟨rfl, ⟨e, hR⟩ | ⟨E, e, _⟩⟩ := hP
    · cases e; exact kk h' hR
    · cases e) (fun E n' h' _ hP => by
    obtain ⟨rfl, ⟨e, _⟩ | ⟨E', e, hX⟩⟩ := hP
    · cases e
    · cases e; exact x_out rfl rfl rfl (kx E h' hX))
theorem bX11_without_10 {fr M1 M2 b1 b2 : Nat} {Q : RS → Nat → AH → Prop} {h : AH} {l1 l2 : Int} {x3 : AV} {R : Int → AH → Prop}   (hS : Sp mX10_survey true (fr - 1) 0 0 [zR 55, zI l1, zR 51, zR 47] 137 h (rI R)) (hf : 1 ≤ fr := by omega) (kk : ∀ (x : Int) (h' : AH), R x h' → Wp mX11_without (kR fr M1 M2) Q (b1, b2) 26 [zR 1, zI l1, zI l2, none] [zI x] 137 h') : Wp mX11_without (kR fr M1 M2) Q (b1, b2) 10 [zR 1, zI l1, zI l2, x3] [] 137 h := by
  refine s_fgt (fgt_c (fgt_c (fgt_c (fgt_n _ fgt_0)))) ?_
  refine s_aload_n (x := 1) dX11_without_10 rfl ?_
  refine s_getFd (c := 1) (d := 55) dX11_without_11 lX11_72 e1 (Or.inl rfl) (by decide) (by decide) ?_
  refine s_iload_n (x := l1) dX11_without_14 rfl ?_
  refine s_aload_n (x := 1) dX11_without_15 rfl ?_
  refine s_getFd (c := 1) (d := 51) dX11_without_16 lX11_65 e1 (Or.inl rfl) (by decide) (by decide) ?_
  refine s_aload_n (x := 1) dX11_without_19 rfl ?_
  refine s_getFd (c := 1) (d := 47) dX11_without_20 lX11_58 e1 (Or.inl rfl) (by decide) (by decide) ?_
  exact s_callV (as := [zI l1, zR 51, zR 47]) (st := []) (o := 55) dX11_without_23 kX11_236 rfl ⟨10, 16, TX10, e55, rfl, by decide⟩ rfl rfl (Nat.le_of_ble_eq_true rfl) hS (show fr - 1 + 1 ≤ fr by omega) (Nat.zero_le _) (Nat.zero_le _) (fun v n' h' hP _ => by obtain ⟨x, e, rfl, hR⟩ := hP; cases e; exact kk x h' hR) (fun E n' h' _ z => (rI_nt _ _ _ z).elim)
theorem bX11_without_26 {fr M1 M2 b1 b2 : Nat} {Q : RS → Nat → AH → Prop} {h : AH} {l1 l2 s0 : Int} {x3 : AV} {R : AH → Prop} (c1 : cel 137 (h 1 4) (2, 21) := by first | assumption | omega) (r1 : 0 ≤ l1 ∧ l1 < 24 := by omega) (hS : Sp mX7_build true (fr - 1) 0 0 [zR 47, zR (h 1 4), zI 0, zI (h ((h 1 4) + 9) l1), zI 0, zI l2] 137 h (rV R)) (hf : 1 ≤ fr := by omega) (kk : ∀ h' : AH, R h' → Wp mX11_without (kR fr M1 M2) Q (b1, b2) 50 [zR 1, zI l1, zI l2, zI s0] [] 137 h') : Wp mX11_without (kR fr M1 M2) Q (b1, b2) 26 [zR 1, zI l1, zI l2, x3] [zI s0] 137 h := by
  refine s_fgt (fgt_c (fgt_c (fgt_c (fgt_n _ fgt_0)))) ?_
  refine s_istore_n dX11_without_26 rfl (by decide) ?_
  refine s_aload_n (x := 1) dX11_without_27 rfl ?_
  refine s_getFd (c := 1) (d := 47) dX11_without_28 lX11_58 e1 (Or.inl rfl) (by decide) (by decide) ?_
  refine s_aload_n (x := 1) dX11_without_31 rfl ?_
  refine s_getR (c := 1) dX11_without_32 lX11_27 e1 rfl ?_
  refine s_iconst dX11_without_35 ?_
  refine s_aload_n (x := 1) dX11_without_36 rfl ?_
  refine s_getR (c := 1) dX11_without_37 lX11_27 e1 rfl ?_
  refine s_getFd (c := h 1 4) (d := (h 1 4) + 9) dX11_without_40 lX11_197 c1 (Or.inl rfl) rfl (ne0 (fin_X2_15 c1)) ?_
  refine s_iload_n (x := l1) dX11_without_43 rfl ?_
  refine s_iald (c := (h 1 4) + 9) (i := l1) dX11_without_44 (fin_X2_15 c1) r1.1 r1.2 ?_
  refine s_iconst dX11_without_45 ?_
  refine s_iload_n (x := l2) dX11_without_46 rfl ?_
  exact s_callV (as := [zR (h 1 4), zI 0, zI (h ((h 1 4) + 9) l1), zI 0, zI l2]) (st := []) (o := 47) dX11_without_47 kX11_200 rfl ⟨7, 9, TX7, e47, rfl, by decide⟩ rfl rfl (Nat.le_of_ble_eq_true rfl) hS (show fr - 1 + 1 ≤ fr by omega) (Nat.zero_le _) (Nat.zero_le _) (fun v n' h' hP _ => by obtain ⟨e, rfl, hR⟩ := hP; cases e; exact kk h' hR) (fun E n' h' _ z => (rV_nt _ _ _ z).elim)
theorem bX11_without_50 {fr M1 M2 b1 b2 : Nat} {Q : RS → Nat → AH → Prop} {h : AH} {l3 : Int} {x1 x2 : AV} {R : Int → AH → Prop}   (hS : Sp mX10_countStill true (fr - 1) 0 0 [zR 55, zI l3, zR 51, zR 47, zI (h 55 1)] 137 h (rI R)) (hf : 1 ≤ fr := by omega) (kk : ∀ (x : Int) (h' : AH), R x h' → Wp mX11_without (kR fr M1 M2) Q (b1, b2) 73 [zR 1, none, none, zI l3] [zI x] 137 h') : Wp mX11_without (kR fr M1 M2) Q (b1, b2) 50 [zR 1, x1, x2, zI l3] [] 137 h := by
  refine s_fgt (fgt_c (fgt_n _ (fgt_n _ (fgt_c fgt_0)))) ?_
  refine s_aload_n (x := 1) dX11_without_50 rfl ?_
  refine s_getFd (c := 1) (d := 55) dX11_without_51 lX11_72 e1 (Or.inl rfl) (by decide) (by decide) ?_
  refine s_iload_n (x := l3) dX11_without_54 rfl ?_
  refine s_aload_n (x := 1) dX11_without_55 rfl ?_
  refine s_getFd (c := 1) (d := 51) dX11_without_56 lX11_65 e1 (Or.inl rfl) (by decide) (by decide) ?_
  refine s_aload_n (x := 1) dX11_without_59 rfl ?_
  refine s_getFd (c := 1) (d := 47) dX11_without_60 lX11_58 e1 (Or.inl rfl) (by decide) (by decide) ?_
  refine s_aload_n (x := 1) dX11_without_63 rfl ?_
  refine s_getFd (c := 1) (d := 55) dX11_without_64 lX11_72 e1 (Or.inl rfl) (by decide) (by decide) ?_
  refine s_get (c := 55) dX11_without_67 lX11_153 e55 (by decide) ?_
  exact s_callV (as := [zI l3, zR 51, zR 47, zI (h 55 1)]) (st := []) (o := 55) dX11_without_70 kX11_249 rfl ⟨10, 16, TX10, e55, rfl, by decide⟩ rfl rfl (Nat.le_of_ble_eq_true rfl) hS (show fr - 1 + 1 ≤ fr by omega) (Nat.zero_le _) (Nat.zero_le _) (fun v n' h' hP _ => by obtain ⟨x, e, rfl, hR⟩ := hP; cases e; exact kk x h' hR) (fun E n' h' _ z => (rI_nt _ _ _ z).elim)
theorem bX11_without_73 {fr M1 M2 b1 b2 : Nat} {Q : RS → Nat → AH → Prop} {h : AH} {s0 : Int} {x0 x1 x2 x3 : AV}   (hq : Q (.inl (some (zI s0))) 137 h) : Wp mX11_without (kR fr M1 M2) Q (b1, b2) 73 [x0, x1, x2, x3] [zI s0] 137 h := by
  refine s_fgt (fgt_n _ (fgt_n _ (fgt_n _ (fgt_n _ fgt_0)))) ?_
  exact s_ireturn dX11_without_73 ⟨.int, rfl, rfl⟩ hq (fun z => by cases z)
theorem dX11_lasts_0 : decode mX11_lasts.cd 0 = .ok (.aload_n 0, 1) := by decide +kernel
theorem dX11_lasts_1 : decode mX11_lasts.cd 1 = .ok (.iload_n 1, 1) := by decide +kernel
theorem dX11_lasts_2 : decode mX11_lasts.cd 2 = .ok (.invokevirtual 230, 3) := by decide +kernel
theorem dX11_lasts_5 : decode mX11_lasts.cd 5 = .ok (.aload_n 0, 1) := by decide +kernel
theorem dX11_lasts_6 : decode mX11_lasts.cd 6 = .ok (.getfield 72, 3) := by decide +kernel
theorem dX11_lasts_9 : decode mX11_lasts.cd 9 = .ok (.aload_n 0, 1) := by decide +kernel
theorem dX11_lasts_10 : decode mX11_lasts.cd 10 = .ok (.getfield 72, 3) := by decide +kernel
theorem dX11_lasts_13 : decode mX11_lasts.cd 13 = .ok (.iload_n 1, 1) := by decide +kernel
theorem dX11_lasts_14 : decode mX11_lasts.cd 14 = .ok (.aload_n 0, 1) := by decide +kernel
theorem dX11_lasts_15 : decode mX11_lasts.cd 15 = .ok (.getfield 65, 3) := by decide +kernel
theorem dX11_lasts_18 : decode mX11_lasts.cd 18 = .ok (.aload_n 0, 1) := by decide +kernel
theorem dX11_lasts_19 : decode mX11_lasts.cd 19 = .ok (.getfield 58, 3) := by decide +kernel
theorem dX11_lasts_22 : decode mX11_lasts.cd 22 = .ok (.invokevirtual 236, 3) := by decide +kernel
theorem dX11_lasts_25 : decode mX11_lasts.cd 25 = .ok (.aload_n 0, 1) := by decide +kernel
theorem dX11_lasts_26 : decode mX11_lasts.cd 26 = .ok (.getfield 65, 3) := by decide +kernel
theorem dX11_lasts_29 : decode mX11_lasts.cd 29 = .ok (.aload_n 0, 1) := by decide +kernel
theorem dX11_lasts_30 : decode mX11_lasts.cd 30 = .ok (.getfield 58, 3) := by decide +kernel
theorem dX11_lasts_33 : decode mX11_lasts.cd 33 = .ok (.invokevirtual 253, 3) := by decide +kernel
theorem dX11_lasts_36 : decode mX11_lasts.cd 36 = .ok (.ireturn, 1) := by decide +kernel
theorem bX11_lasts_0 {fr M1 M2 b1 b2 : Nat} {Q : RS → Nat → AH → Prop} {h : AH} {l1 : Int} {R : AH → Prop} {X : String → AH → Prop}   (hS : Sp mX11_needHour true (fr - 1) 1 6 [zR 1, zI l1] 137 h (rVx R X)) (hf : 1 ≤ fr := by omega) (g1 : 1 ≤ b1 := by omega) (g2 : 6 ≤ b2 := by omega) (kk : ∀ h' : AH, R h' → Wp mX11_lasts (kR fr M1 M2) Q (b1 - 1, b2 - 6) 5 [zR 1, zI l1] [] 137 h') (kx : ∀ (E : String) (h' : AH), X E h' → Q (.inr E) 137 h') : Wp mX11_lasts (kR fr M1 M2) Q (b1, b2) 0 [zR 1, zI l1] [] 137 h := by
  refine s_aload_n (x := 1) dX11_lasts_0 rfl ?_
  refine s_iload_n (x := l1) dX11_lasts_1 rfl ?_
  exact s_callV (as := [zI l1]) (st := []) (o := 1) dX11_lasts_2 kX11_230 rfl ⟨11, 18, TX11, e1, rfl, by decide⟩ rfl rfl (Nat.le_of_ble_eq_true rfl) hS (show fr - 1 + 1 ≤ fr by omega) g1 g2 (fun v n' h' hP _ => by
    obtain ⟨rfl, ⟨e, hR⟩ | ⟨E, e, _⟩⟩ := hP
    · cases e; exact kk h' hR
    · cases e) (fun E n' h' _ hP => by
    obtain ⟨rfl, ⟨e, _⟩ | ⟨E', e, hX⟩⟩ := hP
    · cases e
    · cases e; exact x_out rfl rfl rfl (kx E h' hX))
theorem bX11_lasts_5 {fr M1 M2 b1 b2 : Nat} {Q : RS → Nat → AH → Prop} {h : AH} {l1 : Int} {R : Int → AH → Prop}   (hS : Sp mX10_survey true (fr - 1) 0 0 [zR 55, zI l1, zR 51, zR 47] 137 h (rI R)) (hf : 1 ≤ fr := by omega) (kk : ∀ (x : Int) (h' : AH), R x h' → Wp mX11_lasts (kR fr M1 M2) Q (b1, b2) 25 [zR 1, zI l1] [zI x, zR 55] 137 h') : Wp mX11_lasts (kR fr M1 M2) Q (b1, b2) 5 [zR 1, zI l1] [] 137 h := by
  refine s_aload_n (x := 1) dX11_lasts_5 rfl ?_
  refine s_getFd (c := 1) (d := 55) dX11_lasts_6 lX11_72 e1 (Or.inl rfl) (by decide) (by decide) ?_
  refine s_aload_n (x := 1) dX11_lasts_9 rfl ?_
  refine s_getFd (c := 1) (d := 55) dX11_lasts_10 lX11_72 e1 (Or.inl rfl) (by decide) (by decide) ?_
  refine s_iload_n (x := l1) dX11_lasts_13 rfl ?_
  refine s_aload_n (x := 1) dX11_lasts_14 rfl ?_
  refine s_getFd (c := 1) (d := 51) dX11_lasts_15 lX11_65 e1 (Or.inl rfl) (by decide) (by decide) ?_
  refine s_aload_n (x := 1) dX11_lasts_18 rfl ?_
  refine s_getFd (c := 1) (d := 47) dX11_lasts_19 lX11_58 e1 (Or.inl rfl) (by decide) (by decide) ?_
  exact s_callV (as := [zI l1, zR 51, zR 47]) (st := [zR 55]) (o := 55) dX11_lasts_22 kX11_236 rfl ⟨10, 16, TX10, e55, rfl, by decide⟩ rfl rfl (Nat.le_of_ble_eq_true rfl) hS (show fr - 1 + 1 ≤ fr by omega) (Nat.zero_le _) (Nat.zero_le _) (fun v n' h' hP _ => by obtain ⟨x, e, rfl, hR⟩ := hP; cases e; exact kk x h' hR) (fun E n' h' _ z => (rI_nt _ _ _ z).elim)
theorem bX11_lasts_25 {fr M1 M2 b1 b2 : Nat} {Q : RS → Nat → AH → Prop} {h : AH} {s0 : Int} {x1 : AV} {R : Int → AH → Prop}   (hS : Sp mX10_thickestFog true (fr - 1) 0 0 [zR 55, zI s0, zR 51, zR 47] 137 h (rI R)) (hf : 1 ≤ fr := by omega) (kk : ∀ (x : Int) (h' : AH), R x h' → Wp mX11_lasts (kR fr M1 M2) Q (b1, b2) 36 [zR 1, none] [zI x] 137 h') : Wp mX11_lasts (kR fr M1 M2) Q (b1, b2) 25 [zR 1, x1] [zI s0, zR 55] 137 h := by
  refine s_fgt (fgt_c (fgt_n _ fgt_0)) ?_
  refine s_aload_n (x := 1) dX11_lasts_25 rfl ?_
  refine s_getFd (c := 1) (d := 51) dX11_lasts_26 lX11_65 e1 (Or.inl rfl) (by decide) (by decide) ?_
  refine s_aload_n (x := 1) dX11_lasts_29 rfl ?_
  refine s_getFd (c := 1) (d := 47) dX11_lasts_30 lX11_58 e1 (Or.inl rfl) (by decide) (by decide) ?_
  exact s_callV (as := [zI s0, zR 51, zR 47]) (st := []) (o := 55) dX11_lasts_33 kX11_253 rfl ⟨10, 16, TX10, e55, rfl, by decide⟩ rfl rfl (Nat.le_of_ble_eq_true rfl) hS (show fr - 1 + 1 ≤ fr by omega) (Nat.zero_le _) (Nat.zero_le _) (fun v n' h' hP _ => by obtain ⟨x, e, rfl, hR⟩ := hP; cases e; exact kk x h' hR) (fun E n' h' _ z => (rI_nt _ _ _ z).elim)
theorem bX11_lasts_36 {fr M1 M2 b1 b2 : Nat} {Q : RS → Nat → AH → Prop} {h : AH} {s0 : Int} {x0 x1 : AV}   (hq : Q (.inl (some (zI s0))) 137 h) : Wp mX11_lasts (kR fr M1 M2) Q (b1, b2) 36 [x0, x1] [zI s0] 137 h := by
  refine s_fgt (fgt_n _ (fgt_n _ fgt_0)) ?_
  exact s_ireturn dX11_lasts_36 ⟨.int, rfl, rfl⟩ hq (fun z => by cases z)
theorem dX11_sing_0 : decode mX11_sing.cd 0 = .ok (.iload_n 1, 1) := by decide +kernel
theorem dX11_sing_1 : decode mX11_sing.cd 1 = .ok (.ifCond .lt 9, 3) := by decide +kernel
theorem dX11_sing_4 : decode mX11_sing.cd 4 = .ok (.iload_n 1, 1) := by decide +kernel
theorem dX11_sing_5 : decode mX11_sing.cd 5 = .ok (.bipush 16, 2) := by decide +kernel
theorem dX11_sing_7 : decode mX11_sing.cd 7 = .ok (.if_icmp .lt 11, 3) := by decide +kernel
theorem dX11_sing_10 : decode mX11_sing.cd 10 = .ok (.new 156, 3) := by decide +kernel
theorem dX11_sing_13 : decode mX11_sing.cd 13 = .ok (.dup, 1) := by decide +kernel
theorem dX11_sing_14 : decode mX11_sing.cd 14 = .ok (.invokespecial 158, 3) := by decide +kernel
theorem dX11_sing_17 : decode mX11_sing.cd 17 = .ok (.athrow, 1) := by decide +kernel
theorem dX11_sing_18 : decode mX11_sing.cd 18 = .ok (.iload_n 2, 1) := by decide +kernel
theorem dX11_sing_19 : decode mX11_sing.cd 19 = .ok (.iconst (-1), 1) := by decide +kernel
theorem dX11_sing_20 : decode mX11_sing.cd 20 = .ok (.if_icmp .eq 8, 3) := by decide +kernel
theorem dX11_sing_23 : decode mX11_sing.cd 23 = .ok (.aload_n 0, 1) := by decide +kernel
theorem dX11_sing_24 : decode mX11_sing.cd 24 = .ok (.iload_n 2, 1) := by decide +kernel
theorem dX11_sing_25 : decode mX11_sing.cd 25 = .ok (.invokevirtual 183, 3) := by decide +kernel
theorem dX11_sing_28 : decode mX11_sing.cd 28 = .ok (.aload_n 0, 1) := by decide +kernel
theorem dX11_sing_29 : decode mX11_sing.cd 29 = .ok (.getfield 37, 3) := by decide +kernel
theorem dX11_sing_32 : decode mX11_sing.cd 32 = .ok (.getfield 256, 3) := by decide +kernel
theorem dX11_sing_35 : decode mX11_sing.cd 35 = .ok (.iload_n 1, 1) := by decide +kernel
theorem dX11_sing_36 : decode mX11_sing.cd 36 = .ok (.iload_n 2, 1) := by decide +kernel
theorem dX11_sing_37 : decode mX11_sing.cd 37 = .ok (.iastore, 1) := by decide +kernel
theorem dX11_sing_38 : decode mX11_sing.cd 38 = .ok (.aload_n 0, 1) := by decide +kernel
theorem dX11_sing_39 : decode mX11_sing.cd 39 = .ok (.getfield 37, 3) := by decide +kernel
theorem dX11_sing_42 : decode mX11_sing.cd 42 = .ok (.aload_n 0, 1) := by decide +kernel
theorem dX11_sing_43 : decode mX11_sing.cd 43 = .ok (.getfield 37, 3) := by decide +kernel
theorem dX11_sing_46 : decode mX11_sing.cd 46 = .ok (.getfield 259, 3) := by decide +kernel
theorem dX11_sing_49 : decode mX11_sing.cd 49 = .ok (.iload_n 1, 1) := by decide +kernel
theorem dX11_sing_50 : decode mX11_sing.cd 50 = .ok (.iconst 1, 1) := by decide +kernel
theorem dX11_sing_51 : decode mX11_sing.cd 51 = .ok (.iadd, 1) := by decide +kernel
theorem dX11_sing_52 : decode mX11_sing.cd 52 = .ok (.invokestatic 214, 3) := by decide +kernel
theorem dX11_sing_55 : decode mX11_sing.cd 55 = .ok (.putfield 259, 3) := by decide +kernel
theorem dX11_sing_58 : decode mX11_sing.cd 58 = .ok (.aload_n 0, 1) := by decide +kernel
theorem dX11_sing_59 : decode mX11_sing.cd 59 = .ok (.getfield 37, 3) := by decide +kernel
theorem dX11_sing_62 : decode mX11_sing.cd 62 = .ok (.getfield 259, 3) := by decide +kernel
theorem dX11_sing_65 : decode mX11_sing.cd 65 = .ok (.ireturn, 1) := by decide +kernel
theorem bX11_sing_0 {fr M1 M2 b1 b2 : Nat} {Q : RS → Nat → AH → Prop} {h : AH} {l1 l2 : Int}  (r1 : -2147483648 ≤ l1 ∧ l1 < 2147483648 := by omega) (kt : l1 < 0 → Wp mX11_sing (kR fr M1 M2) Q (b1, b2) 10 [zR 1, zI l1, zI l2] [] 137 h) (kf : 0 ≤ l1 → Wp mX11_sing (kR fr M1 M2) Q (b1, b2) 4 [zR 1, zI l1, zI l2] [] 137 h) : Wp mX11_sing (kR fr M1 M2) Q (b1, b2) 0 [zR 1, zI l1, zI l2] [] 137 h := by
  refine s_iload_n (x := l1) dX11_sing_0 rfl ?_
  exact s_if_lt (tgt := 10) dX11_sing_1 (by decide) r1 kt kf
theorem bX11_sing_4 {fr M1 M2 b1 b2 : Nat} {Q : RS → Nat → AH → Prop} {h : AH} {l1 l2 : Int}  (r1 : -2147483648 ≤ l1 ∧ l1 < 2147483648 := by omega) (kt : l1 < 16 → Wp mX11_sing (kR fr M1 M2) Q (b1, b2) 18 [zR 1, zI l1, zI l2] [] 137 h) (kf : 16 ≤ l1 → Wp mX11_sing (kR fr M1 M2) Q (b1, b2) 10 [zR 1, zI l1, zI l2] [] 137 h) : Wp mX11_sing (kR fr M1 M2) Q (b1, b2) 4 [zR 1, zI l1, zI l2] [] 137 h := by
  refine s_iload_n (x := l1) dX11_sing_4 rfl ?_
  refine s_bipush dX11_sing_5 (by decide) ?_
  exact s_icmp_lt (tgt := 18) dX11_sing_7 (by decide) r1 ⟨by decide, by decide⟩ kt kf
theorem bX11_sing_10 {fr M1 M2 b1 b2 : Nat} {Q : RS → Nat → AH → Prop} {h : AH} {x0 x1 x2 : AV}   (f8 : 8 ≤ fr := by omega) (g1 : 1 ≤ b1 := by omega) (g2 : 6 ≤ b2 := by omega) (hq : Q (.inr "java/util/NoSuchElementException") 137 h) : Wp mX11_sing (kR fr M1 M2) Q (b1, b2) 10 [x0, x1, x2] [] 137 h := by
  refine s_fgt (fgt_n _ (fgt_n _ (fgt_n _ fgt_0))) ?_
  exact s_throw (Or.inr ⟨rfl, rfl, rfl⟩) rfl dX11_sing_10 dX11_sing_13 dX11_sing_14 dX11_sing_17 rfl rfl rfl f8 (Nat.le_of_ble_eq_true rfl) g1 g2 wd860 wd24 hq
theorem bX11_sing_18 {fr M1 M2 b1 b2 : Nat} {Q : RS → Nat → AH → Prop} {h : AH} {l1 l2 : Int}  (r1 : -2147483648 ≤ l2 ∧ l2 < 2147483648 := by omega) (kt : l2 = (-1) → Wp mX11_sing (kR fr M1 M2) Q (b1, b2) 28 [zR 1, zI l1, zI l2] [] 137 h) (kf : ¬ l2 = (-1) → Wp mX11_sing (kR fr M1 M2) Q (b1, b2) 23 [zR 1, zI l1, zI l2] [] 137 h) : Wp mX11_sing (kR fr M1 M2) Q (b1, b2) 18 [zR 1, zI l1, zI l2] [] 137 h := by
  refine s_iload_n (x := l2) dX11_sing_18 rfl ?_
  refine s_iconst dX11_sing_19 ?_
  exact s_icmp_eq (tgt := 28) dX11_sing_20 (by decide) r1 ⟨by decide, by decide⟩ kt kf
theorem bX11_sing_23 {fr M1 M2 b1 b2 : Nat} {Q : RS → Nat → AH → Prop} {h : AH} {l1 l2 : Int} {R : AH → Prop} {X : String → AH → Prop}   (hS : Sp mX11_needSound true (fr - 1) 1 6 [zR 1, zI l2] 137 h (rVx R X)) (hf : 1 ≤ fr := by omega) (g1 : 1 ≤ b1 := by omega) (g2 : 6 ≤ b2 := by omega) (kk : ∀ h' : AH, R h' → Wp mX11_sing (kR fr M1 M2) Q (b1 - 1, b2 - 6) 28 [zR 1, zI l1, zI l2] [] 137 h') (kx : ∀ (E : String) (h' : AH), X E h' → Q (.inr E) 137 h') : Wp mX11_sing (kR fr M1 M2) Q (b1, b2) 23 [zR 1, zI l1, zI l2] [] 137 h := by
  refine s_aload_n (x := 1) dX11_sing_23 rfl ?_
  refine s_iload_n (x := l2) dX11_sing_24 rfl ?_
  exact s_callV (as := [zI l2]) (st := []) (o := 1) dX11_sing_25 kX11_183 rfl ⟨11, 18, TX11, e1, rfl, by decide⟩ rfl rfl (Nat.le_of_ble_eq_true rfl) hS (show fr - 1 + 1 ≤ fr by omega) g1 g2 (fun v n' h' hP _ => by
    obtain ⟨rfl, ⟨e, hR⟩ | ⟨E, e, _⟩⟩ := hP
    · cases e; exact kk h' hR
    · cases e) (fun E n' h' _ hP => by
    obtain ⟨rfl, ⟨e, _⟩ | ⟨E', e, hX⟩⟩ := hP
    · cases e
    · cases e; exact x_out rfl rfl rfl (kx E h' hX))
theorem bX11_sing_28 {fr M1 M2 b1 b2 : Nat} {Q : RS → Nat → AH → Prop} {h : AH} {l1 l2 : Int}  (r1 : 0 ≤ l1 ∧ l1 < 16 := by omega) (r2 : 1 ≤ fr := by omega) (r3 : -2147483648 ≤ h 34 5 ∧ h 34 5 < 2147483648 := by omega) (r4 : -2147483648 ≤ l1 + 1 ∧ l1 + 1 < 2147483648 := by omega) (hq : Q (.inl (some (zI (max (h 34 5) (l1 + 1))))) 137 (up (up h 37 l1 l2) 34 5 (max (h 34 5) (l1 + 1)))) : Wp mX11_sing (kR fr M1 M2) Q (b1, b2) 28 [zR 1, zI l1, zI l2] [] 137 h := by
  refine s_aload_n (x := 1) dX11_sing_28 rfl ?_
  refine s_getFd (c := 1) (d := 34) dX11_sing_29 lX11_37 e1 (Or.inl rfl) (by decide) (by decide) ?_
  refine s_getFd (c := 34) (d := 37) dX11_sing_32 lX11_256 e34 (Or.inl rfl) (by decide) (by decide) ?_
  refine s_iload_n (x := l1) dX11_sing_35 rfl ?_
  refine s_iload_n (x := l2) dX11_sing_36 rfl ?_
  refine s_iast (c := 37) (i := l1) dX11_sing_37 e37 r1.1 r1.2 ?_
  refine s_aload_n (x := 1) dX11_sing_38 rfl ?_
  refine s_getFd (c := 1) (d := 34) dX11_sing_39 lX11_37 e1 (Or.inl rfl) (by decide) (by decide) ?_
  refine s_aload_n (x := 1) dX11_sing_42 rfl ?_
  refine s_getFd (c := 1) (d := 34) dX11_sing_43 lX11_37 e1 (Or.inl rfl) (by decide) (by decide) ?_
  refine s_get (c := 34) dX11_sing_46 lX11_259 e34 (by decide) ?_
  refine s_iload_n (x := l1) dX11_sing_49 rfl ?_
  refine s_iconst dX11_sing_50 ?_
  refine s_iadd dX11_sing_51 ?_
  refine s_mmax dX11_sing_52 wd952 wd953 wd19 wd954 r2 (Nat.le_of_ble_eq_true rfl) r3 r4 ?_
  refine s_put (c := 34) dX11_sing_55 lX11_259 e34 ?_
  refine s_aload_n (x := 1) dX11_sing_58 rfl ?_
  refine s_getFd (c := 1) (d := 34) dX11_sing_59 lX11_37 e1 (Or.inl rfl) (by decide) (by decide) ?_
  refine s_get (c := 34) dX11_sing_62 lX11_259 e34 (by decide) ?_
  exact s_ireturn dX11_sing_65 ⟨.int, rfl, rfl⟩ hq (fun z => by cases z)
theorem dX11_round_0 : decode mX11_round.cd 0 = .ok (.aload_n 0, 1) := by decide +kernel
theorem dX11_round_1 : decode mX11_round.cd 1 = .ok (.getfield 58, 3) := by decide +kernel
theorem dX11_round_4 : decode mX11_round.cd 4 = .ok (.aload_n 0, 1) := by decide +kernel
theorem dX11_round_5 : decode mX11_round.cd 5 = .ok (.getfield 27, 3) := by decide +kernel
theorem dX11_round_8 : decode mX11_round.cd 8 = .ok (.iconst 0, 1) := by decide +kernel
theorem dX11_round_9 : decode mX11_round.cd 9 = .ok (.aload_n 0, 1) := by decide +kernel
theorem dX11_round_10 : decode mX11_round.cd 10 = .ok (.getfield 27, 3) := by decide +kernel
theorem dX11_round_13 : decode mX11_round.cd 13 = .ok (.getfield 197, 3) := by decide +kernel
theorem dX11_round_16 : decode mX11_round.cd 16 = .ok (.bipush 12, 2) := by decide +kernel
theorem dX11_round_18 : decode mX11_round.cd 18 = .ok (.iaload, 1) := by decide +kernel
theorem dX11_round_19 : decode mX11_round.cd 19 = .ok (.iconst 0, 1) := by decide +kernel
theorem dX11_round_20 : decode mX11_round.cd 20 = .ok (.iconst (-1), 1) := by decide +kernel
theorem dX11_round_21 : decode mX11_round.cd 21 = .ok (.invokevirtual 200, 3) := by decide +kernel
theorem dX11_round_24 : decode mX11_round.cd 24 = .ok (.iload_n 1, 1) := by decide +kernel
theorem dX11_round_25 : decode mX11_round.cd 25 = .ok (.tableswitch 82 0 2 #[27, 54, 74], 27) := by decide +kernel
theorem dX11_round_52 : decode mX11_round.cd 52 = .ok (.aload_n 0, 1) := by decide +kernel
theorem dX11_round_53 : decode mX11_round.cd 53 = .ok (.getfield 79, 3) := by decide +kernel
theorem dX11_round_56 : decode mX11_round.cd 56 = .ok (.aload_n 0, 1) := by decide +kernel
theorem dX11_round_57 : decode mX11_round.cd 57 = .ok (.getfield 27, 3) := by decide +kernel
theorem dX11_round_60 : decode mX11_round.cd 60 = .ok (.aload_n 0, 1) := by decide +kernel
theorem dX11_round_61 : decode mX11_round.cd 61 = .ok (.getfield 58, 3) := by decide +kernel
theorem dX11_round_64 : decode mX11_round.cd 64 = .ok (.aload_n 0, 1) := by decide +kernel
theorem dX11_round_65 : decode mX11_round.cd 65 = .ok (.getfield 37, 3) := by decide +kernel
theorem dX11_round_68 : decode mX11_round.cd 68 = .ok (.aload_n 0, 1) := by decide +kernel
theorem dX11_round_69 : decode mX11_round.cd 69 = .ok (.getfield 37, 3) := by decide +kernel
theorem dX11_round_72 : decode mX11_round.cd 72 = .ok (.getfield 259, 3) := by decide +kernel
theorem dX11_round_75 : decode mX11_round.cd 75 = .ok (.invokevirtual 262, 3) := by decide +kernel
theorem dX11_round_78 : decode mX11_round.cd 78 = .ok (.ireturn, 1) := by decide +kernel
theorem dX11_round_79 : decode mX11_round.cd 79 = .ok (.aload_n 0, 1) := by decide +kernel
theorem dX11_round_80 : decode mX11_round.cd 80 = .ok (.getfield 79, 3) := by decide +kernel
theorem dX11_round_83 : decode mX11_round.cd 83 = .ok (.aload_n 0, 1) := by decide +kernel
theorem dX11_round_84 : decode mX11_round.cd 84 = .ok (.getfield 27, 3) := by decide +kernel
theorem dX11_round_87 : decode mX11_round.cd 87 = .ok (.aload_n 0, 1) := by decide +kernel
theorem dX11_round_88 : decode mX11_round.cd 88 = .ok (.getfield 58, 3) := by decide +kernel
theorem dX11_round_91 : decode mX11_round.cd 91 = .ok (.aload_n 0, 1) := by decide +kernel
theorem dX11_round_92 : decode mX11_round.cd 92 = .ok (.getfield 37, 3) := by decide +kernel
theorem dX11_round_95 : decode mX11_round.cd 95 = .ok (.invokevirtual 266, 3) := by decide +kernel
theorem dX11_round_98 : decode mX11_round.cd 98 = .ok (.ireturn, 1) := by decide +kernel
theorem dX11_round_99 : decode mX11_round.cd 99 = .ok (.aload_n 0, 1) := by decide +kernel
theorem dX11_round_100 : decode mX11_round.cd 100 = .ok (.getfield 37, 3) := by decide +kernel
theorem dX11_round_103 : decode mX11_round.cd 103 = .ok (.getfield 259, 3) := by decide +kernel
theorem dX11_round_106 : decode mX11_round.cd 106 = .ok (.ireturn, 1) := by decide +kernel
theorem dX11_round_107 : decode mX11_round.cd 107 = .ok (.new 156, 3) := by decide +kernel
theorem dX11_round_110 : decode mX11_round.cd 110 = .ok (.dup, 1) := by decide +kernel
theorem dX11_round_111 : decode mX11_round.cd 111 = .ok (.invokespecial 158, 3) := by decide +kernel
theorem dX11_round_114 : decode mX11_round.cd 114 = .ok (.athrow, 1) := by decide +kernel
theorem bX11_round_0 {fr M1 M2 b1 b2 : Nat} {Q : RS → Nat → AH → Prop} {h : AH} {l1 : Int} {R : AH → Prop} (c1 : cel 137 (h 1 4) (2, 21) := by first | assumption | omega)  (hS : Sp mX7_build true (fr - 1) 0 0 [zR 47, zR (h 1 4), zI 0, zI (h ((h 1 4) + 9) 12), zI 0, zI (-1)] 137 h (rV R)) (hf : 1 ≤ fr := by omega) (kk : ∀ h' : AH, R h' → Wp mX11_round (kR fr M1 M2) Q (b1, b2) 24 [zR 1, zI l1] [] 137 h') : Wp mX11_round (kR fr M1 M2) Q (b1, b2) 0 [zR 1, zI l1] [] 137 h := by
  refine s_aload_n (x := 1) dX11_round_0 rfl ?_
  refine s_getFd (c := 1) (d := 47) dX11_round_1 lX11_58 e1 (Or.inl rfl) (by decide) (by decide) ?_
  refine s_aload_n (x := 1) dX11_round_4 rfl ?_
  refine s_getR (c := 1) dX11_round_5 lX11_27 e1 rfl ?_
  refine s_iconst dX11_round_8 ?_
  refine s_aload_n (x := 1) dX11_round_9 rfl ?_
  refine s_getR (c := 1) dX11_round_10 lX11_27 e1 rfl ?_
  refine s_getFd (c := h 1 4) (d := (h 1 4) + 9) dX11_round_13 lX11_197 c1 (Or.inl rfl) rfl (ne0 (fin_X2_15 c1)) ?_
  refine s_bipush dX11_round_16 (by decide) ?_
  refine s_iald (c := (h 1 4) + 9) (i := 12) dX11_round_18 (fin_X2_15 c1) (by decide) (by decide) ?_
  refine s_iconst dX11_round_19 ?_
  refine s_iconst dX11_round_20 ?_
  exact s_callV (as := [zR (h 1 4), zI 0, zI (h ((h 1 4) + 9) 12), zI 0, zI (-1)]) (st := []) (o := 47) dX11_round_21 kX11_200 rfl ⟨7, 9, TX7, e47, rfl, by decide⟩ rfl rfl (Nat.le_of_ble_eq_true rfl) hS (show fr - 1 + 1 ≤ fr by omega) (Nat.zero_le _) (Nat.zero_le _) (fun v n' h' hP _ => by obtain ⟨e, rfl, hR⟩ := hP; cases e; exact kk h' hR) (fun E n' h' _ z => (rV_nt _ _ _ z).elim)
theorem bX11_round_24 {fr M1 M2 b1 b2 : Nat} {Q : RS → Nat → AH → Prop} {h : AH} {l1 : Int}  (r1 : -2147483648 ≤ l1 ∧ l1 < 2147483648 := by omega) (k0 : l1 = 0 → Wp mX11_round (kR fr M1 M2) Q (b1, b2) 52 [zR 1, zI l1] [] 137 h) (k1 : l1 = 1 → Wp mX11_round (kR fr M1 M2) Q (b1, b2) 79 [zR 1, zI l1] [] 137 h) (k2 : l1 = 2 → Wp mX11_round (kR fr M1 M2) Q (b1, b2) 99 [zR 1, zI l1] [] 137 h) (kd : l1 < 0 ∨ 2 < l1 → Wp mX11_round (kR fr M1 M2) Q (b1, b2) 107 [zR 1, zI l1] [] 137 h) : Wp mX11_round (kR fr M1 M2) Q (b1, b2) 24 [zR 1, zI l1] [] 137 h := by
  refine s_iload_n (x := l1) dX11_round_24 rfl ?_
  rcases (show (l1 < 0 ∨ 2 < l1) ∨ l1 = 0 ∨ l1 = 1 ∨ l1 = 2 by omega) with z | z | z | z
  · exact s_tableOut (tgt := 107) dX11_round_25 r1 z (by decide) (kd z)
  · exact s_tableIn (tgt := 52) (off := 27) dX11_round_25 r1 (by omega) (by omega) (by rw [z]; rfl) (by decide) (k0 z)
  · exact s_tableIn (tgt := 79) (off := 54) dX11_round_25 r1 (by omega) (by omega) (by rw [z]; rfl) (by decide) (k1 z)
  · exact s_tableIn (tgt := 99) (off := 74) dX11_round_25 r1 (by omega) (by omega) (by rw [z]; rfl) (by decide) (k2 z)
theorem bX11_round_52 {fr M1 M2 b1 b2 : Nat} {Q : RS → Nat → AH → Prop} {h : AH} {x1 : AV} {R : Int → AH → Prop}   (hS : Sp mX0_clashes true (fr - 1) 0 0 [zR 80, zR (h 1 4), zR 47, zR 34, zI (h 34 5)] 137 h (rI R)) (hf : 1 ≤ fr := by omega) (kk : ∀ (x : Int) (h' : AH), R x h' → Wp mX11_round (kR fr M1 M2) Q (b1, b2) 78 [zR 1, none] [zI x] 137 h') : Wp mX11_round (kR fr M1 M2) Q (b1, b2) 52 [zR 1, x1] [] 137 h := by
  refine s_fgt (fgt_c (fgt_n _ fgt_0)) ?_
  refine s_aload_n (x := 1) dX11_round_52 rfl ?_
  refine s_getFd (c := 1) (d := 80) dX11_round_53 lX11_79 e1 (Or.inl rfl) (by decide) (by decide) ?_
  refine s_aload_n (x := 1) dX11_round_56 rfl ?_
  refine s_getR (c := 1) dX11_round_57 lX11_27 e1 rfl ?_
  refine s_aload_n (x := 1) dX11_round_60 rfl ?_
  refine s_getFd (c := 1) (d := 47) dX11_round_61 lX11_58 e1 (Or.inl rfl) (by decide) (by decide) ?_
  refine s_aload_n (x := 1) dX11_round_64 rfl ?_
  refine s_getFd (c := 1) (d := 34) dX11_round_65 lX11_37 e1 (Or.inl rfl) (by decide) (by decide) ?_
  refine s_aload_n (x := 1) dX11_round_68 rfl ?_
  refine s_getFd (c := 1) (d := 34) dX11_round_69 lX11_37 e1 (Or.inl rfl) (by decide) (by decide) ?_
  refine s_get (c := 34) dX11_round_72 lX11_259 e34 (by decide) ?_
  exact s_callV (as := [zR (h 1 4), zR 47, zR 34, zI (h 34 5)]) (st := []) (o := 80) dX11_round_75 kX11_262 rfl ⟨0, 1, TX0, e80, rfl, by decide⟩ rfl rfl (Nat.le_of_ble_eq_true rfl) hS (show fr - 1 + 1 ≤ fr by omega) (Nat.zero_le _) (Nat.zero_le _) (fun v n' h' hP _ => by obtain ⟨x, e, rfl, hR⟩ := hP; cases e; exact kk x h' hR) (fun E n' h' _ z => (rI_nt _ _ _ z).elim)
theorem bX11_round_78 {fr M1 M2 b1 b2 : Nat} {Q : RS → Nat → AH → Prop} {h : AH} {s0 : Int} {x0 x1 : AV}   (hq : Q (.inl (some (zI s0))) 137 h) : Wp mX11_round (kR fr M1 M2) Q (b1, b2) 78 [x0, x1] [zI s0] 137 h := by
  refine s_fgt (fgt_n _ (fgt_n _ fgt_0)) ?_
  exact s_ireturn dX11_round_78 ⟨.int, rfl, rfl⟩ hq (fun z => by cases z)
theorem bX11_round_79 {fr M1 M2 b1 b2 : Nat} {Q : RS → Nat → AH → Prop} {h : AH} {x1 : AV} {R : Int → AH → Prop}   (hS : Sp mX0_rests true (fr - 1) 0 0 [zR 80, zR (h 1 4), zR 47, zR 34] 137 h (rI R)) (hf : 1 ≤ fr := by omega) (kk : ∀ (x : Int) (h' : AH), R x h' → Wp mX11_round (kR fr M1 M2) Q (b1, b2) 98 [zR 1, none] [zI x] 137 h') : Wp mX11_round (kR fr M1 M2) Q (b1, b2) 79 [zR 1, x1] [] 137 h := by
  refine s_fgt (fgt_c (fgt_n _ fgt_0)) ?_
  refine s_aload_n (x := 1) dX11_round_79 rfl ?_
  refine s_getFd (c := 1) (d := 80) dX11_round_80 lX11_79 e1 (Or.inl rfl) (by decide) (by decide) ?_
  refine s_aload_n (x := 1) dX11_round_83 rfl ?_
  refine s_getR (c := 1) dX11_round_84 lX11_27 e1 rfl ?_
  refine s_aload_n (x := 1) dX11_round_87 rfl ?_
  refine s_getFd (c := 1) (d := 47) dX11_round_88 lX11_58 e1 (Or.inl rfl) (by decide) (by decide) ?_
  refine s_aload_n (x := 1) dX11_round_91 rfl ?_
  refine s_getFd (c := 1) (d := 34) dX11_round_92 lX11_37 e1 (Or.inl rfl) (by decide) (by decide) ?_
  exact s_callV (as := [zR (h 1 4), zR 47, zR 34]) (st := []) (o := 80) dX11_round_95 kX11_266 rfl ⟨0, 1, TX0, e80, rfl, by decide⟩ rfl rfl (Nat.le_of_ble_eq_true rfl) hS (show fr - 1 + 1 ≤ fr by omega) (Nat.zero_le _) (Nat.zero_le _) (fun v n' h' hP _ => by obtain ⟨x, e, rfl, hR⟩ := hP; cases e; exact kk x h' hR) (fun E n' h' _ z => (rI_nt _ _ _ z).elim)
theorem bX11_round_98 {fr M1 M2 b1 b2 : Nat} {Q : RS → Nat → AH → Prop} {h : AH} {s0 : Int} {x0 x1 : AV}   (hq : Q (.inl (some (zI s0))) 137 h) : Wp mX11_round (kR fr M1 M2) Q (b1, b2) 98 [x0, x1] [zI s0] 137 h := by
  refine s_fgt (fgt_n _ (fgt_n _ fgt_0)) ?_
  exact s_ireturn dX11_round_98 ⟨.int, rfl, rfl⟩ hq (fun z => by cases z)
theorem bX11_round_99 {fr M1 M2 b1 b2 : Nat} {Q : RS → Nat → AH → Prop} {h : AH} {x1 : AV}   (hq : Q (.inl (some (zI (h 34 5)))) 137 h) : Wp mX11_round (kR fr M1 M2) Q (b1, b2) 99 [zR 1, x1] [] 137 h := by
  refine s_fgt (fgt_c (fgt_n _ fgt_0)) ?_
  refine s_aload_n (x := 1) dX11_round_99 rfl ?_
  refine s_getFd (c := 1) (d := 34) dX11_round_100 lX11_37 e1 (Or.inl rfl) (by decide) (by decide) ?_
  refine s_get (c := 34) dX11_round_103 lX11_259 e34 (by decide) ?_
  exact s_ireturn dX11_round_106 ⟨.int, rfl, rfl⟩ hq (fun z => by cases z)
theorem bX11_round_107 {fr M1 M2 b1 b2 : Nat} {Q : RS → Nat → AH → Prop} {h : AH} {x0 x1 : AV}   (f8 : 8 ≤ fr := by omega) (g1 : 1 ≤ b1 := by omega) (g2 : 6 ≤ b2 := by omega) (hq : Q (.inr "java/util/NoSuchElementException") 137 h) : Wp mX11_round (kR fr M1 M2) Q (b1, b2) 107 [x0, x1] [] 137 h := by
  refine s_fgt (fgt_n _ (fgt_n _ fgt_0)) ?_
  exact s_throw (Or.inr ⟨rfl, rfl, rfl⟩) rfl dX11_round_107 dX11_round_110 dX11_round_111 dX11_round_114 rfl rfl rfl f8 (Nat.le_of_ble_eq_true rfl) g1 g2 wd860 wd24 hq
theorem dX11_tell_0 : decode mX11_tell.cd 0 = .ok (.iload_n 1, 1) := by decide +kernel
theorem dX11_tell_1 : decode mX11_tell.cd 1 = .ok (.iconst (-1), 1) := by decide +kernel
theorem dX11_tell_2 : decode mX11_tell.cd 2 = .ok (.if_icmp .eq 8, 3) := by decide +kernel
theorem dX11_tell_5 : decode mX11_tell.cd 5 = .ok (.aload_n 0, 1) := by decide +kernel
theorem dX11_tell_6 : decode mX11_tell.cd 6 = .ok (.iload_n 1, 1) := by decide +kernel
theorem dX11_tell_7 : decode mX11_tell.cd 7 = .ok (.invokevirtual 183, 3) := by decide +kernel
theorem dX11_tell_10 : decode mX11_tell.cd 10 = .ok (.aload_n 0, 1) := by decide +kernel
theorem dX11_tell_11 : decode mX11_tell.cd 11 = .ok (.getfield 37, 3) := by decide +kernel
theorem dX11_tell_14 : decode mX11_tell.cd 14 = .ok (.getfield 150, 3) := by decide +kernel
theorem dX11_tell_17 : decode mX11_tell.cd 17 = .ok (.bipush 60, 2) := by decide +kernel
theorem dX11_tell_19 : decode mX11_tell.cd 19 = .ok (.if_icmp .lt 15, 3) := by decide +kernel
theorem dX11_tell_22 : decode mX11_tell.cd 22 = .ok (.aload_n 0, 1) := by decide +kernel
theorem dX11_tell_23 : decode mX11_tell.cd 23 = .ok (.getfield 20, 3) := by decide +kernel
theorem dX11_tell_26 : decode mX11_tell.cd 26 = .ok (.iconst 2, 1) := by decide +kernel
theorem dX11_tell_27 : decode mX11_tell.cd 27 = .ok (.dup2, 1) := by decide +kernel
theorem dX11_tell_28 : decode mX11_tell.cd 28 = .ok (.iaload, 1) := by decide +kernel
theorem dX11_tell_29 : decode mX11_tell.cd 29 = .ok (.iconst 1, 1) := by decide +kernel
theorem dX11_tell_30 : decode mX11_tell.cd 30 = .ok (.iadd, 1) := by decide +kernel
theorem dX11_tell_31 : decode mX11_tell.cd 31 = .ok (.iastore, 1) := by decide +kernel
theorem dX11_tell_32 : decode mX11_tell.cd 32 = .ok (.iconst (-1), 1) := by decide +kernel
theorem dX11_tell_33 : decode mX11_tell.cd 33 = .ok (.ireturn, 1) := by decide +kernel
theorem dX11_tell_34 : decode mX11_tell.cd 34 = .ok (.aload_n 0, 1) := by decide +kernel
theorem dX11_tell_35 : decode mX11_tell.cd 35 = .ok (.getfield 37, 3) := by decide +kernel
theorem dX11_tell_38 : decode mX11_tell.cd 38 = .ok (.getfield 270, 3) := by decide +kernel
theorem dX11_tell_41 : decode mX11_tell.cd 41 = .ok (.aload_n 0, 1) := by decide +kernel
theorem dX11_tell_42 : decode mX11_tell.cd 42 = .ok (.getfield 37, 3) := by decide +kernel
theorem dX11_tell_45 : decode mX11_tell.cd 45 = .ok (.getfield 150, 3) := by decide +kernel
theorem dX11_tell_48 : decode mX11_tell.cd 48 = .ok (.iload_n 1, 1) := by decide +kernel
theorem dX11_tell_49 : decode mX11_tell.cd 49 = .ok (.iastore, 1) := by decide +kernel
theorem dX11_tell_50 : decode mX11_tell.cd 50 = .ok (.aload_n 0, 1) := by decide +kernel
theorem dX11_tell_51 : decode mX11_tell.cd 51 = .ok (.getfield 37, 3) := by decide +kernel
theorem dX11_tell_54 : decode mX11_tell.cd 54 = .ok (.dup, 1) := by decide +kernel
theorem dX11_tell_55 : decode mX11_tell.cd 55 = .ok (.getfield 150, 3) := by decide +kernel
theorem dX11_tell_58 : decode mX11_tell.cd 58 = .ok (.iconst 1, 1) := by decide +kernel
theorem dX11_tell_59 : decode mX11_tell.cd 59 = .ok (.iadd, 1) := by decide +kernel
theorem dX11_tell_60 : decode mX11_tell.cd 60 = .ok (.putfield 150, 3) := by decide +kernel
theorem dX11_tell_63 : decode mX11_tell.cd 63 = .ok (.aload_n 0, 1) := by decide +kernel
theorem dX11_tell_64 : decode mX11_tell.cd 64 = .ok (.getfield 86, 3) := by decide +kernel
theorem dX11_tell_67 : decode mX11_tell.cd 67 = .ok (.invokevirtual 133, 3) := by decide +kernel
theorem dX11_tell_70 : decode mX11_tell.cd 70 = .ok (.aload_n 0, 1) := by decide +kernel
theorem dX11_tell_71 : decode mX11_tell.cd 71 = .ok (.getfield 93, 3) := by decide +kernel
theorem dX11_tell_74 : decode mX11_tell.cd 74 = .ok (.invokevirtual 134, 3) := by decide +kernel
theorem dX11_tell_77 : decode mX11_tell.cd 77 = .ok (.aload_n 0, 1) := by decide +kernel
theorem dX11_tell_78 : decode mX11_tell.cd 78 = .ok (.getfield 37, 3) := by decide +kernel
theorem dX11_tell_81 : decode mX11_tell.cd 81 = .ok (.getfield 150, 3) := by decide +kernel
theorem dX11_tell_84 : decode mX11_tell.cd 84 = .ok (.ireturn, 1) := by decide +kernel
theorem bX11_tell_0 {fr M1 M2 b1 b2 : Nat} {Q : RS → Nat → AH → Prop} {h : AH} {l1 : Int}  (r1 : -2147483648 ≤ l1 ∧ l1 < 2147483648 := by omega) (kt : l1 = (-1) → Wp mX11_tell (kR fr M1 M2) Q (b1, b2) 10 [zR 1, zI l1] [] 137 h) (kf : ¬ l1 = (-1) → Wp mX11_tell (kR fr M1 M2) Q (b1, b2) 5 [zR 1, zI l1] [] 137 h) : Wp mX11_tell (kR fr M1 M2) Q (b1, b2) 0 [zR 1, zI l1] [] 137 h := by
  refine s_iload_n (x := l1) dX11_tell_0 rfl ?_
  refine s_iconst dX11_tell_1 ?_
  exact s_icmp_eq (tgt := 10) dX11_tell_2 (by decide) r1 ⟨by decide, by decide⟩ kt kf
theorem bX11_tell_5 {fr M1 M2 b1 b2 : Nat} {Q : RS → Nat → AH → Prop} {h : AH} {l1 : Int} {R : AH → Prop} {X : String → AH → Prop}   (hS : Sp mX11_needSound true (fr - 1) 1 6 [zR 1, zI l1] 137 h (rVx R X)) (hf : 1 ≤ fr := by omega) (g1 : 1 ≤ b1 := by omega) (g2 : 6 ≤ b2 := by omega) (kk : ∀ h' : AH, R h' → Wp mX11_tell (kR fr M1 M2) Q (b1 - 1, b2 - 6) 10 [zR 1, zI l1] [] 137 h') (kx : ∀ (E : String) (h' : AH), X E h' → Q (.inr E) 137 h') : Wp mX11_tell (kR fr M1 M2) Q (b1, b2) 5 [zR 1, zI l1] [] 137 h := by
  refine s_aload_n (x := 1) dX11_tell_5 rfl ?_
  refine s_iload_n (x := l1) dX11_tell_6 rfl ?_
  exact s_callV (as := [zI l1]) (st := []) (o := 1) dX11_tell_7 kX11_183 rfl ⟨11, 18, TX11, e1, rfl, by decide⟩ rfl rfl (Nat.le_of_ble_eq_true rfl) hS (show fr - 1 + 1 ≤ fr by omega) g1 g2 (fun v n' h' hP _ => by
    obtain ⟨rfl, ⟨e, hR⟩ | ⟨E, e, _⟩⟩ := hP
    · cases e; exact kk h' hR
    · cases e) (fun E n' h' _ hP => by
    obtain ⟨rfl, ⟨e, _⟩ | ⟨E', e, hX⟩⟩ := hP
    · cases e
    · cases e; exact x_out rfl rfl rfl (kx E h' hX))
theorem bX11_tell_10 {fr M1 M2 b1 b2 : Nat} {Q : RS → Nat → AH → Prop} {h : AH} {l1 : Int}  (r1 : -2147483648 ≤ h 34 3 ∧ h 34 3 < 2147483648 := by omega) (kt : h 34 3 < 60 → Wp mX11_tell (kR fr M1 M2) Q (b1, b2) 34 [zR 1, zI l1] [] 137 h) (kf : 60 ≤ h 34 3 → Wp mX11_tell (kR fr M1 M2) Q (b1, b2) 22 [zR 1, zI l1] [] 137 h) : Wp mX11_tell (kR fr M1 M2) Q (b1, b2) 10 [zR 1, zI l1] [] 137 h := by
  refine s_aload_n (x := 1) dX11_tell_10 rfl ?_
  refine s_getFd (c := 1) (d := 34) dX11_tell_11 lX11_37 e1 (Or.inl rfl) (by decide) (by decide) ?_
  refine s_get (c := 34) dX11_tell_14 lX11_150 e34 (by decide) ?_
  refine s_bipush dX11_tell_17 (by decide) ?_
  exact s_icmp_lt (tgt := 34) dX11_tell_19 (by decide) r1 ⟨by decide, by decide⟩ kt kf
theorem bX11_tell_22 {fr M1 M2 b1 b2 : Nat} {Q : RS → Nat → AH → Prop} {h : AH} {x1 : AV}   (hq : Q (.inl (some (zI (-1)))) 137 (up h 3 2 ((h 3 2) + 1))) : Wp mX11_tell (kR fr M1 M2) Q (b1, b2) 22 [zR 1, x1] [] 137 h := by
  refine s_fgt (fgt_c (fgt_n _ fgt_0)) ?_
  refine s_aload_n (x := 1) dX11_tell_22 rfl ?_
  refine s_getFd (c := 1) (d := 3) dX11_tell_23 lX11_20 e1 (Or.inl rfl) (by decide) (by decide) ?_
  refine s_iconst dX11_tell_26 ?_
  refine s_dup2 dX11_tell_27 rfl rfl ?_
  refine s_iald (c := 3) (i := 2) dX11_tell_28 e3 (by decide) (by decide) ?_
  refine s_iconst dX11_tell_29 ?_
  refine s_iadd dX11_tell_30 ?_
  refine s_iast (c := 3) (i := 2) dX11_tell_31 e3 (by decide) (by decide) ?_
  refine s_iconst dX11_tell_32 ?_
  exact s_ireturn dX11_tell_33 ⟨.int, rfl, rfl⟩ hq (fun z => by cases z)
theorem bX11_tell_34 {fr M1 M2 b1 b2 : Nat} {Q : RS → Nat → AH → Prop} {h : AH} {l1 : Int} {R : AH → Prop}  (r1 : 0 ≤ h 34 3 ∧ h 34 3 < 60 := by omega) (hS : Sp mX3_forget true (fr - 1) 0 0 [zR 82] 137 (up (up h 36 (h 34 3) l1) 34 3 ((h 34 3) + 1)) (rV R)) (hf : 1 ≤ fr := by omega) (kk : ∀ h' : AH, R h' → Wp mX11_tell (kR fr M1 M2) Q (b1, b2) 70 [zR 1, zI l1] [] 137 h') : Wp mX11_tell (kR fr M1 M2) Q (b1, b2) 34 [zR 1, zI l1] [] 137 h := by
  refine s_aload_n (x := 1) dX11_tell_34 rfl ?_
  refine s_getFd (c := 1) (d := 34) dX11_tell_35 lX11_37 e1 (Or.inl rfl) (by decide) (by decide) ?_
  refine s_getFd (c := 34) (d := 36) dX11_tell_38 lX11_270 e34 (Or.inl rfl) (by decide) (by decide) ?_
  refine s_aload_n (x := 1) dX11_tell_41 rfl ?_
  refine s_getFd (c := 1) (d := 34) dX11_tell_42 lX11_37 e1 (Or.inl rfl) (by decide) (by decide) ?_
  refine s_get (c := 34) dX11_tell_45 lX11_150 e34 (by decide) ?_
  refine s_iload_n (x := l1) dX11_tell_48 rfl ?_
  refine s_iast (c := 36) (i := h 34 3) dX11_tell_49 e36 r1.1 r1.2 ?_
  refine s_aload_n (x := 1) dX11_tell_50 rfl ?_
  refine s_getFd (c := 1) (d := 34) dX11_tell_51 lX11_37 e1 (Or.inl rfl) (by decide) (by decide) ?_
  refine s_dup dX11_tell_54 rfl ?_
  refine s_get (c := 34) dX11_tell_55 lX11_150 e34 (by decide) ?_
  refine s_iconst dX11_tell_58 ?_
  refine s_iadd dX11_tell_59 ?_
  refine s_put (c := 34) dX11_tell_60 lX11_150 e34 ?_
  refine s_aload_n (x := 1) dX11_tell_63 rfl ?_
  refine s_getFd (c := 1) (d := 82) dX11_tell_64 lX11_86 e1 (Or.inl rfl) (by decide) (by decide) ?_
  exact s_callV (as := []) (st := []) (o := 82) dX11_tell_67 kX11_133 rfl ⟨3, 8, TX3, e82, rfl, by decide⟩ rfl rfl (Nat.le_of_ble_eq_true rfl) hS (show fr - 1 + 1 ≤ fr by omega) (Nat.zero_le _) (Nat.zero_le _) (fun v n' h' hP _ => by obtain ⟨e, rfl, hR⟩ := hP; cases e; exact kk h' hR) (fun E n' h' _ z => (rV_nt _ _ _ z).elim)
theorem bX11_tell_70 {fr M1 M2 b1 b2 : Nat} {Q : RS → Nat → AH → Prop} {h : AH} {x1 : AV} {R : AH → Prop}   (hS : Sp mX9_forget true (fr - 1) 0 0 [zR 88] 137 h (rV R)) (hf : 1 ≤ fr := by omega) (kk : ∀ h' : AH, R h' → Wp mX11_tell (kR fr M1 M2) Q (b1, b2) 77 [zR 1, none] [] 137 h') : Wp mX11_tell (kR fr M1 M2) Q (b1, b2) 70 [zR 1, x1] [] 137 h := by
  refine s_fgt (fgt_c (fgt_n _ fgt_0)) ?_
  refine s_aload_n (x := 1) dX11_tell_70 rfl ?_
  refine s_getFd (c := 1) (d := 88) dX11_tell_71 lX11_93 e1 (Or.inl rfl) (by decide) (by decide) ?_
  exact s_callV (as := []) (st := []) (o := 88) dX11_tell_74 kX11_134 rfl ⟨9, 9, TX9, e88, rfl, by decide⟩ rfl rfl (Nat.le_of_ble_eq_true rfl) hS (show fr - 1 + 1 ≤ fr by omega) (Nat.zero_le _) (Nat.zero_le _) (fun v n' h' hP _ => by obtain ⟨e, rfl, hR⟩ := hP; cases e; exact kk h' hR) (fun E n' h' _ z => (rV_nt _ _ _ z).elim)
theorem bX11_tell_77 {fr M1 M2 b1 b2 : Nat} {Q : RS → Nat → AH → Prop} {h : AH} {x1 : AV}   (hq : Q (.inl (some (zI (h 34 3)))) 137 h) : Wp mX11_tell (kR fr M1 M2) Q (b1, b2) 77 [zR 1, x1] [] 137 h := by
  refine s_fgt (fgt_c (fgt_n _ fgt_0)) ?_
  refine s_aload_n (x := 1) dX11_tell_77 rfl ?_
  refine s_getFd (c := 1) (d := 34) dX11_tell_78 lX11_37 e1 (Or.inl rfl) (by decide) (by decide) ?_
  refine s_get (c := 34) dX11_tell_81 lX11_150 e34 (by decide) ?_
  exact s_ireturn dX11_tell_84 ⟨.int, rfl, rfl⟩ hq (fun z => by cases z)
theorem dX11_untell_0 : decode mX11_untell.cd 0 = .ok (.aload_n 0, 1) := by decide +kernel
theorem dX11_untell_1 : decode mX11_untell.cd 1 = .ok (.getfield 37, 3) := by decide +kernel
theorem dX11_untell_4 : decode mX11_untell.cd 4 = .ok (.getfield 150, 3) := by decide +kernel
theorem dX11_untell_7 : decode mX11_untell.cd 7 = .ok (.istore_n 1, 1) := by decide +kernel
theorem dX11_untell_8 : decode mX11_untell.cd 8 = .ok (.aload_n 0, 1) := by decide +kernel
theorem dX11_untell_9 : decode mX11_untell.cd 9 = .ok (.getfield 37, 3) := by decide +kernel
theorem dX11_untell_12 : decode mX11_untell.cd 12 = .ok (.invokevirtual 273, 3) := by decide +kernel
theorem dX11_untell_15 : decode mX11_untell.cd 15 = .ok (.aload_n 0, 1) := by decide +kernel
theorem dX11_untell_16 : decode mX11_untell.cd 16 = .ok (.getfield 86, 3) := by decide +kernel
theorem dX11_untell_19 : decode mX11_untell.cd 19 = .ok (.invokevirtual 133, 3) := by decide +kernel
theorem dX11_untell_22 : decode mX11_untell.cd 22 = .ok (.aload_n 0, 1) := by decide +kernel
theorem dX11_untell_23 : decode mX11_untell.cd 23 = .ok (.getfield 93, 3) := by decide +kernel
theorem dX11_untell_26 : decode mX11_untell.cd 26 = .ok (.invokevirtual 134, 3) := by decide +kernel
theorem dX11_untell_29 : decode mX11_untell.cd 29 = .ok (.iload_n 1, 1) := by decide +kernel
theorem dX11_untell_30 : decode mX11_untell.cd 30 = .ok (.ireturn, 1) := by decide +kernel
theorem bX11_untell_0 {fr M1 M2 b1 b2 : Nat} {Q : RS → Nat → AH → Prop} {h : AH} {x1 : AV} {R : AH → Prop}   (hS : Sp mX8_clearTold true (fr - 1) 0 0 [zR 34] 137 h (rV R)) (hf : 1 ≤ fr := by omega) (kk : ∀ h' : AH, R h' → Wp mX11_untell (kR fr M1 M2) Q (b1, b2) 15 [zR 1, zI (h 34 3)] [] 137 h') : Wp mX11_untell (kR fr M1 M2) Q (b1, b2) 0 [zR 1, x1] [] 137 h := by
  refine s_fgt (fgt_c (fgt_n _ fgt_0)) ?_
  refine s_aload_n (x := 1) dX11_untell_0 rfl ?_
  refine s_getFd (c := 1) (d := 34) dX11_untell_1 lX11_37 e1 (Or.inl rfl) (by decide) (by decide) ?_
  refine s_get (c := 34) dX11_untell_4 lX11_150 e34 (by decide) ?_
  refine s_istore_n dX11_untell_7 rfl (by decide) ?_
  refine s_aload_n (x := 1) dX11_untell_8 rfl ?_
  refine s_getFd (c := 1) (d := 34) dX11_untell_9 lX11_37 e1 (Or.inl rfl) (by decide) (by decide) ?_
  exact s_callV (as := []) (st := []) (o := 34) dX11_untell_12 kX11_273 rfl ⟨8, 8, TX8, e34, rfl, by decide⟩ rfl rfl (Nat.le_of_ble_eq_true rfl) hS (show fr - 1 + 1 ≤ fr by omega) (Nat.zero_le _) (Nat.zero_le _) (fun v n' h' hP _ => by obtain ⟨e, rfl, hR⟩ := hP; cases e; exact kk h' hR) (fun E n' h' _ z => (rV_nt _ _ _ z).elim)
theorem bX11_untell_15 {fr M1 M2 b1 b2 : Nat} {Q : RS → Nat → AH → Prop} {h : AH} {l1 : Int} {R : AH → Prop}   (hS : Sp mX3_forget true (fr - 1) 0 0 [zR 82] 137 h (rV R)) (hf : 1 ≤ fr := by omega) (kk : ∀ h' : AH, R h' → Wp mX11_untell (kR fr M1 M2) Q (b1, b2) 22 [zR 1, zI l1] [] 137 h') : Wp mX11_untell (kR fr M1 M2) Q (b1, b2) 15 [zR 1, zI l1] [] 137 h := by
  refine s_aload_n (x := 1) dX11_untell_15 rfl ?_
  refine s_getFd (c := 1) (d := 82) dX11_untell_16 lX11_86 e1 (Or.inl rfl) (by decide) (by decide) ?_
  exact s_callV (as := []) (st := []) (o := 82) dX11_untell_19 kX11_133 rfl ⟨3, 8, TX3, e82, rfl, by decide⟩ rfl rfl (Nat.le_of_ble_eq_true rfl) hS (show fr - 1 + 1 ≤ fr by omega) (Nat.zero_le _) (Nat.zero_le _) (fun v n' h' hP _ => by obtain ⟨e, rfl, hR⟩ := hP; cases e; exact kk h' hR) (fun E n' h' _ z => (rV_nt _ _ _ z).elim)
theorem bX11_untell_22 {fr M1 M2 b1 b2 : Nat} {Q : RS → Nat → AH → Prop} {h : AH} {l1 : Int} {R : AH → Prop}   (hS : Sp mX9_forget true (fr - 1) 0 0 [zR 88] 137 h (rV R)) (hf : 1 ≤ fr := by omega) (kk : ∀ h' : AH, R h' → Wp mX11_untell (kR fr M1 M2) Q (b1, b2) 29 [zR 1, zI l1] [] 137 h') : Wp mX11_untell (kR fr M1 M2) Q (b1, b2) 22 [zR 1, zI l1] [] 137 h := by
  refine s_aload_n (x := 1) dX11_untell_22 rfl ?_
  refine s_getFd (c := 1) (d := 88) dX11_untell_23 lX11_93 e1 (Or.inl rfl) (by decide) (by decide) ?_
  exact s_callV (as := []) (st := []) (o := 88) dX11_untell_26 kX11_134 rfl ⟨9, 9, TX9, e88, rfl, by decide⟩ rfl rfl (Nat.le_of_ble_eq_true rfl) hS (show fr - 1 + 1 ≤ fr by omega) (Nat.zero_le _) (Nat.zero_le _) (fun v n' h' hP _ => by obtain ⟨e, rfl, hR⟩ := hP; cases e; exact kk h' hR) (fun E n' h' _ z => (rV_nt _ _ _ z).elim)
theorem bX11_untell_29 {fr M1 M2 b1 b2 : Nat} {Q : RS → Nat → AH → Prop} {h : AH} {l1 : Int} {x0 : AV}   (hq : Q (.inl (some (zI l1))) 137 h) : Wp mX11_untell (kR fr M1 M2) Q (b1, b2) 29 [x0, zI l1] [] 137 h := by
  refine s_fgt (fgt_n _ (fgt_c fgt_0)) ?_
  refine s_iload_n (x := l1) dX11_untell_29 rfl ?_
  exact s_ireturn dX11_untell_30 ⟨.int, rfl, rfl⟩ hq (fun z => by cases z)
theorem dX11_rivals_0 : decode mX11_rivals.cd 0 = .ok (.iload_n 2, 1) := by decide +kernel
theorem dX11_rivals_1 : decode mX11_rivals.cd 1 = .ok (.ifCond .lt 8, 3) := by decide +kernel
theorem dX11_rivals_4 : decode mX11_rivals.cd 4 = .ok (.iload_n 2, 1) := by decide +kernel
theorem dX11_rivals_5 : decode mX11_rivals.cd 5 = .ok (.iconst 5, 1) := by decide +kernel
theorem dX11_rivals_6 : decode mX11_rivals.cd 6 = .ok (.if_icmp .le 11, 3) := by decide +kernel
theorem dX11_rivals_9 : decode mX11_rivals.cd 9 = .ok (.new 156, 3) := by decide +kernel
theorem dX11_rivals_12 : decode mX11_rivals.cd 12 = .ok (.dup, 1) := by decide +kernel
theorem dX11_rivals_13 : decode mX11_rivals.cd 13 = .ok (.invokespecial 158, 3) := by decide +kernel
theorem dX11_rivals_16 : decode mX11_rivals.cd 16 = .ok (.athrow, 1) := by decide +kernel
theorem dX11_rivals_17 : decode mX11_rivals.cd 17 = .ok (.iload_n 1, 1) := by decide +kernel
theorem dX11_rivals_18 : decode mX11_rivals.cd 18 = .ok (.iconst 1, 1) := by decide +kernel
theorem dX11_rivals_19 : decode mX11_rivals.cd 19 = .ok (.if_icmp .lt 9, 3) := by decide +kernel
theorem dX11_rivals_22 : decode mX11_rivals.cd 22 = .ok (.iload_n 1, 1) := by decide +kernel
theorem dX11_rivals_23 : decode mX11_rivals.cd 23 = .ok (.bipush 100, 2) := by decide +kernel
theorem dX11_rivals_25 : decode mX11_rivals.cd 25 = .ok (.if_icmp .le 11, 3) := by decide +kernel
theorem dX11_rivals_28 : decode mX11_rivals.cd 28 = .ok (.new 115, 3) := by decide +kernel
theorem dX11_rivals_31 : decode mX11_rivals.cd 31 = .ok (.dup, 1) := by decide +kernel
theorem dX11_rivals_32 : decode mX11_rivals.cd 32 = .ok (.invokespecial 117, 3) := by decide +kernel
theorem dX11_rivals_35 : decode mX11_rivals.cd 35 = .ok (.athrow, 1) := by decide +kernel
theorem dX11_rivals_36 : decode mX11_rivals.cd 36 = .ok (.aload_n 0, 1) := by decide +kernel
theorem dX11_rivals_37 : decode mX11_rivals.cd 37 = .ok (.getfield 86, 3) := by decide +kernel
theorem dX11_rivals_40 : decode mX11_rivals.cd 40 = .ok (.aload_n 0, 1) := by decide +kernel
theorem dX11_rivals_41 : decode mX11_rivals.cd 41 = .ok (.getfield 27, 3) := by decide +kernel
theorem dX11_rivals_44 : decode mX11_rivals.cd 44 = .ok (.aload_n 0, 1) := by decide +kernel
theorem dX11_rivals_45 : decode mX11_rivals.cd 45 = .ok (.getfield 37, 3) := by decide +kernel
theorem dX11_rivals_48 : decode mX11_rivals.cd 48 = .ok (.aload_n 0, 1) := by decide +kernel
theorem dX11_rivals_49 : decode mX11_rivals.cd 49 = .ok (.getfield 65, 3) := by decide +kernel
theorem dX11_rivals_52 : decode mX11_rivals.cd 52 = .ok (.iload_n 1, 1) := by decide +kernel
theorem dX11_rivals_53 : decode mX11_rivals.cd 53 = .ok (.invokevirtual 276, 3) := by decide +kernel
theorem dX11_rivals_56 : decode mX11_rivals.cd 56 = .ok (.aload_n 0, 1) := by decide +kernel
theorem dX11_rivals_57 : decode mX11_rivals.cd 57 = .ok (.getfield 86, 3) := by decide +kernel
theorem dX11_rivals_60 : decode mX11_rivals.cd 60 = .ok (.getfield 280, 3) := by decide +kernel
theorem dX11_rivals_63 : decode mX11_rivals.cd 63 = .ok (.iload_n 2, 1) := by decide +kernel
theorem dX11_rivals_64 : decode mX11_rivals.cd 64 = .ok (.iaload, 1) := by decide +kernel
theorem dX11_rivals_65 : decode mX11_rivals.cd 65 = .ok (.ireturn, 1) := by decide +kernel
theorem bX11_rivals_0 {fr M1 M2 b1 b2 : Nat} {Q : RS → Nat → AH → Prop} {h : AH} {l1 l2 : Int}  (r1 : -2147483648 ≤ l2 ∧ l2 < 2147483648 := by omega) (kt : l2 < 0 → Wp mX11_rivals (kR fr M1 M2) Q (b1, b2) 9 [zR 1, zI l1, zI l2] [] 137 h) (kf : 0 ≤ l2 → Wp mX11_rivals (kR fr M1 M2) Q (b1, b2) 4 [zR 1, zI l1, zI l2] [] 137 h) : Wp mX11_rivals (kR fr M1 M2) Q (b1, b2) 0 [zR 1, zI l1, zI l2] [] 137 h := by
  refine s_iload_n (x := l2) dX11_rivals_0 rfl ?_
  exact s_if_lt (tgt := 9) dX11_rivals_1 (by decide) r1 kt kf
theorem bX11_rivals_4 {fr M1 M2 b1 b2 : Nat} {Q : RS → Nat → AH → Prop} {h : AH} {l1 l2 : Int}  (r1 : -2147483648 ≤ l2 ∧ l2 < 2147483648 := by omega) (kt : l2 ≤ 5 → Wp mX11_rivals (kR fr M1 M2) Q (b1, b2) 17 [zR 1, zI l1, zI l2] [] 137 h) (kf : 5 < l2 → Wp mX11_rivals (kR fr M1 M2) Q (b1, b2) 9 [zR 1, zI l1, zI l2] [] 137 h) : Wp mX11_rivals (kR fr M1 M2) Q (b1, b2) 4 [zR 1, zI l1, zI l2] [] 137 h := by
  refine s_iload_n (x := l2) dX11_rivals_4 rfl ?_
  refine s_iconst dX11_rivals_5 ?_
  exact s_icmp_le (tgt := 17) dX11_rivals_6 (by decide) r1 ⟨by decide, by decide⟩ kt kf
theorem bX11_rivals_9 {fr M1 M2 b1 b2 : Nat} {Q : RS → Nat → AH → Prop} {h : AH} {x0 x1 x2 : AV}   (f8 : 8 ≤ fr := by omega) (g1 : 1 ≤ b1 := by omega) (g2 : 6 ≤ b2 := by omega) (hq : Q (.inr "java/util/NoSuchElementException") 137 h) : Wp mX11_rivals (kR fr M1 M2) Q (b1, b2) 9 [x0, x1, x2] [] 137 h := by
  refine s_fgt (fgt_n _ (fgt_n _ (fgt_n _ fgt_0))) ?_
  exact s_throw (Or.inr ⟨rfl, rfl, rfl⟩) rfl dX11_rivals_9 dX11_rivals_12 dX11_rivals_13 dX11_rivals_16 rfl rfl rfl f8 (Nat.le_of_ble_eq_true rfl) g1 g2 wd860 wd24 hq
theorem bX11_rivals_17 {fr M1 M2 b1 b2 : Nat} {Q : RS → Nat → AH → Prop} {h : AH} {l1 l2 : Int}  (r1 : -2147483648 ≤ l1 ∧ l1 < 2147483648 := by omega) (kt : l1 < 1 → Wp mX11_rivals (kR fr M1 M2) Q (b1, b2) 28 [zR 1, zI l1, zI l2] [] 137 h) (kf : 1 ≤ l1 → Wp mX11_rivals (kR fr M1 M2) Q (b1, b2) 22 [zR 1, zI l1, zI l2] [] 137 h) : Wp mX11_rivals (kR fr M1 M2) Q (b1, b2) 17 [zR 1, zI l1, zI l2] [] 137 h := by
  refine s_iload_n (x := l1) dX11_rivals_17 rfl ?_
  refine s_iconst dX11_rivals_18 ?_
  exact s_icmp_lt (tgt := 28) dX11_rivals_19 (by decide) r1 ⟨by decide, by decide⟩ kt kf
theorem bX11_rivals_22 {fr M1 M2 b1 b2 : Nat} {Q : RS → Nat → AH → Prop} {h : AH} {l1 l2 : Int}  (r1 : -2147483648 ≤ l1 ∧ l1 < 2147483648 := by omega) (kt : l1 ≤ 100 → Wp mX11_rivals (kR fr M1 M2) Q (b1, b2) 36 [zR 1, zI l1, zI l2] [] 137 h) (kf : 100 < l1 → Wp mX11_rivals (kR fr M1 M2) Q (b1, b2) 28 [zR 1, zI l1, zI l2] [] 137 h) : Wp mX11_rivals (kR fr M1 M2) Q (b1, b2) 22 [zR 1, zI l1, zI l2] [] 137 h := by
  refine s_iload_n (x := l1) dX11_rivals_22 rfl ?_
  refine s_bipush dX11_rivals_23 (by decide) ?_
  exact s_icmp_le (tgt := 36) dX11_rivals_25 (by decide) r1 ⟨by decide, by decide⟩ kt kf
theorem bX11_rivals_28 {fr M1 M2 b1 b2 : Nat} {Q : RS → Nat → AH → Prop} {h : AH} {x0 x1 x2 : AV}   (f8 : 8 ≤ fr := by omega) (g1 : 1 ≤ b1 := by omega) (g2 : 6 ≤ b2 := by omega) (hq : Q (.inr "java/lang/IllegalArgumentException") 137 h) : Wp mX11_rivals (kR fr M1 M2) Q (b1, b2) 28 [x0, x1, x2] [] 137 h := by
  refine s_fgt (fgt_n _ (fgt_n _ (fgt_n _ fgt_0))) ?_
  exact s_throw (Or.inl ⟨rfl, rfl, rfl⟩) rfl dX11_rivals_28 dX11_rivals_31 dX11_rivals_32 dX11_rivals_35 rfl rfl rfl f8 (Nat.le_of_ble_eq_true rfl) g1 g2 wd637 wd18 hq
theorem bX11_rivals_36 {fr M1 M2 b1 b2 : Nat} {Q : RS → Nat → AH → Prop} {h : AH} {l1 l2 : Int} {R : AH → Prop}   (hS : Sp mX3_find true (fr - 1) 0 0 [zR 82, zR (h 1 4), zR 34, zR 51, zI l1] 137 h (rV R)) (hf : 1 ≤ fr := by omega) (kk : ∀ h' : AH, R h' → Wp mX11_rivals (kR fr M1 M2) Q (b1, b2) 56 [zR 1, zI l1, zI l2] [] 137 h') : Wp mX11_rivals (kR fr M1 M2) Q (b1, b2) 36 [zR 1, zI l1, zI l2] [] 137 h := by
  refine s_aload_n (x := 1) dX11_rivals_36 rfl ?_
  refine s_getFd (c := 1) (d := 82) dX11_rivals_37 lX11_86 e1 (Or.inl rfl) (by decide) (by decide) ?_
  refine s_aload_n (x := 1) dX11_rivals_40 rfl ?_
  refine s_getR (c := 1) dX11_rivals_41 lX11_27 e1 rfl ?_
  refine s_aload_n (x := 1) dX11_rivals_44 rfl ?_
  refine s_getFd (c := 1) (d := 34) dX11_rivals_45 lX11_37 e1 (Or.inl rfl) (by decide) (by decide) ?_
  refine s_aload_n (x := 1) dX11_rivals_48 rfl ?_
  refine s_getFd (c := 1) (d := 51) dX11_rivals_49 lX11_65 e1 (Or.inl rfl) (by decide) (by decide) ?_
  refine s_iload_n (x := l1) dX11_rivals_52 rfl ?_
  exact s_callV (as := [zR (h 1 4), zR 34, zR 51, zI l1]) (st := []) (o := 82) dX11_rivals_53 kX11_276 rfl ⟨3, 8, TX3, e82, rfl, by decide⟩ rfl rfl (Nat.le_of_ble_eq_true rfl) hS (show fr - 1 + 1 ≤ fr by omega) (Nat.zero_le _) (Nat.zero_le _) (fun v n' h' hP _ => by obtain ⟨e, rfl, hR⟩ := hP; cases e; exact kk h' hR) (fun E n' h' _ z => (rV_nt _ _ _ z).elim)
theorem bX11_rivals_56 {fr M1 M2 b1 b2 : Nat} {Q : RS → Nat → AH → Prop} {h : AH} {l2 : Int} {x1 : AV}  (r1 : 0 ≤ l2 ∧ l2 < 6 := by omega) (hq : Q (.inl (some (zI (h 83 l2)))) 137 h) : Wp mX11_rivals (kR fr M1 M2) Q (b1, b2) 56 [zR 1, x1, zI l2] [] 137 h := by
  refine s_fgt (fgt_c (fgt_n _ (fgt_c fgt_0))) ?_
  refine s_aload_n (x := 1) dX11_rivals_56 rfl ?_
  refine s_getFd (c := 1) (d := 82) dX11_rivals_57 lX11_86 e1 (Or.inl rfl) (by decide) (by decide) ?_
  refine s_getFd (c := 82) (d := 83) dX11_rivals_60 lX11_280 e82 (Or.inl rfl) (by decide) (by decide) ?_
  refine s_iload_n (x := l2) dX11_rivals_63 rfl ?_
  refine s_iald (c := 83) (i := l2) dX11_rivals_64 e83 r1.1 r1.2 ?_
  exact s_ireturn dX11_rivals_65 ⟨.int, rfl, rfl⟩ hq (fun z => by cases z)
theorem dX11_sayers_0 : decode mX11_sayers.cd 0 = .ok (.iload_n 1, 1) := by decide +kernel
theorem dX11_sayers_1 : decode mX11_sayers.cd 1 = .ok (.ifCond .lt 8, 3) := by decide +kernel
theorem dX11_sayers_4 : decode mX11_sayers.cd 4 = .ok (.iload_n 1, 1) := by decide +kernel
theorem dX11_sayers_5 : decode mX11_sayers.cd 5 = .ok (.iconst 2, 1) := by decide +kernel
theorem dX11_sayers_6 : decode mX11_sayers.cd 6 = .ok (.if_icmp .le 11, 3) := by decide +kernel
theorem dX11_sayers_9 : decode mX11_sayers.cd 9 = .ok (.new 156, 3) := by decide +kernel
theorem dX11_sayers_12 : decode mX11_sayers.cd 12 = .ok (.dup, 1) := by decide +kernel
theorem dX11_sayers_13 : decode mX11_sayers.cd 13 = .ok (.invokespecial 158, 3) := by decide +kernel
theorem dX11_sayers_16 : decode mX11_sayers.cd 16 = .ok (.athrow, 1) := by decide +kernel
theorem dX11_sayers_17 : decode mX11_sayers.cd 17 = .ok (.aload_n 0, 1) := by decide +kernel
theorem dX11_sayers_18 : decode mX11_sayers.cd 18 = .ok (.getfield 58, 3) := by decide +kernel
theorem dX11_sayers_21 : decode mX11_sayers.cd 21 = .ok (.aload_n 0, 1) := by decide +kernel
theorem dX11_sayers_22 : decode mX11_sayers.cd 22 = .ok (.getfield 27, 3) := by decide +kernel
theorem dX11_sayers_25 : decode mX11_sayers.cd 25 = .ok (.iconst 0, 1) := by decide +kernel
theorem dX11_sayers_26 : decode mX11_sayers.cd 26 = .ok (.aload_n 0, 1) := by decide +kernel
theorem dX11_sayers_27 : decode mX11_sayers.cd 27 = .ok (.getfield 27, 3) := by decide +kernel
theorem dX11_sayers_30 : decode mX11_sayers.cd 30 = .ok (.getfield 197, 3) := by decide +kernel
theorem dX11_sayers_33 : decode mX11_sayers.cd 33 = .ok (.bipush 12, 2) := by decide +kernel
theorem dX11_sayers_35 : decode mX11_sayers.cd 35 = .ok (.iaload, 1) := by decide +kernel
theorem dX11_sayers_36 : decode mX11_sayers.cd 36 = .ok (.iconst 0, 1) := by decide +kernel
theorem dX11_sayers_37 : decode mX11_sayers.cd 37 = .ok (.iconst (-1), 1) := by decide +kernel
theorem dX11_sayers_38 : decode mX11_sayers.cd 38 = .ok (.invokevirtual 200, 3) := by decide +kernel
theorem dX11_sayers_41 : decode mX11_sayers.cd 41 = .ok (.aload_n 0, 1) := by decide +kernel
theorem dX11_sayers_42 : decode mX11_sayers.cd 42 = .ok (.getfield 93, 3) := by decide +kernel
theorem dX11_sayers_45 : decode mX11_sayers.cd 45 = .ok (.aload_n 0, 1) := by decide +kernel
theorem dX11_sayers_46 : decode mX11_sayers.cd 46 = .ok (.getfield 27, 3) := by decide +kernel
theorem dX11_sayers_49 : decode mX11_sayers.cd 49 = .ok (.aload_n 0, 1) := by decide +kernel
theorem dX11_sayers_50 : decode mX11_sayers.cd 50 = .ok (.getfield 37, 3) := by decide +kernel
theorem dX11_sayers_53 : decode mX11_sayers.cd 53 = .ok (.aload_n 0, 1) := by decide +kernel
theorem dX11_sayers_54 : decode mX11_sayers.cd 54 = .ok (.getfield 65, 3) := by decide +kernel
theorem dX11_sayers_57 : decode mX11_sayers.cd 57 = .ok (.aload_n 0, 1) := by decide +kernel
theorem dX11_sayers_58 : decode mX11_sayers.cd 58 = .ok (.getfield 58, 3) := by decide +kernel
theorem dX11_sayers_61 : decode mX11_sayers.cd 61 = .ok (.invokevirtual 283, 3) := by decide +kernel
theorem dX11_sayers_64 : decode mX11_sayers.cd 64 = .ok (.aload_n 0, 1) := by decide +kernel
theorem dX11_sayers_65 : decode mX11_sayers.cd 65 = .ok (.getfield 93, 3) := by decide +kernel
theorem dX11_sayers_68 : decode mX11_sayers.cd 68 = .ok (.getfield 286, 3) := by decide +kernel
theorem dX11_sayers_71 : decode mX11_sayers.cd 71 = .ok (.iload_n 1, 1) := by decide +kernel
theorem dX11_sayers_72 : decode mX11_sayers.cd 72 = .ok (.iaload, 1) := by decide +kernel
theorem dX11_sayers_73 : decode mX11_sayers.cd 73 = .ok (.ireturn, 1) := by decide +kernel
theorem bX11_sayers_0 {fr M1 M2 b1 b2 : Nat} {Q : RS → Nat → AH → Prop} {h : AH} {l1 : Int}  (r1 : -2147483648 ≤ l1 ∧ l1 < 2147483648 := by omega) (kt : l1 < 0 → Wp mX11_sayers (kR fr M1 M2) Q (b1, b2) 9 [zR 1, zI l1] [] 137 h) (kf : 0 ≤ l1 → Wp mX11_sayers (kR fr M1 M2) Q (b1, b2) 4 [zR 1, zI l1] [] 137 h) : Wp mX11_sayers (kR fr M1 M2) Q (b1, b2) 0 [zR 1, zI l1] [] 137 h := by
  refine s_iload_n (x := l1) dX11_sayers_0 rfl ?_
  exact s_if_lt (tgt := 9) dX11_sayers_1 (by decide) r1 kt kf
theorem bX11_sayers_4 {fr M1 M2 b1 b2 : Nat} {Q : RS → Nat → AH → Prop} {h : AH} {l1 : Int}  (r1 : -2147483648 ≤ l1 ∧ l1 < 2147483648 := by omega) (kt : l1 ≤ 2 → Wp mX11_sayers (kR fr M1 M2) Q (b1, b2) 17 [zR 1, zI l1] [] 137 h) (kf : 2 < l1 → Wp mX11_sayers (kR fr M1 M2) Q (b1, b2) 9 [zR 1, zI l1] [] 137 h) : Wp mX11_sayers (kR fr M1 M2) Q (b1, b2) 4 [zR 1, zI l1] [] 137 h := by
  refine s_iload_n (x := l1) dX11_sayers_4 rfl ?_
  refine s_iconst dX11_sayers_5 ?_
  exact s_icmp_le (tgt := 17) dX11_sayers_6 (by decide) r1 ⟨by decide, by decide⟩ kt kf
theorem bX11_sayers_9 {fr M1 M2 b1 b2 : Nat} {Q : RS → Nat → AH → Prop} {h : AH} {x0 x1 : AV}   (f8 : 8 ≤ fr := by omega) (g1 : 1 ≤ b1 := by omega) (g2 : 6 ≤ b2 := by omega) (hq : Q (.inr "java/util/NoSuchElementException") 137 h) : Wp mX11_sayers (kR fr M1 M2) Q (b1, b2) 9 [x0, x1] [] 137 h := by
  refine s_fgt (fgt_n _ (fgt_n _ fgt_0)) ?_
  exact s_throw (Or.inr ⟨rfl, rfl, rfl⟩) rfl dX11_sayers_9 dX11_sayers_12 dX11_sayers_13 dX11_sayers_16 rfl rfl rfl f8 (Nat.le_of_ble_eq_true rfl) g1 g2 wd860 wd24 hq
theorem bX11_sayers_17 {fr M1 M2 b1 b2 : Nat} {Q : RS → Nat → AH → Prop} {h : AH} {l1 : Int} {R : AH → Prop} (c1 : cel 137 (h 1 4) (2, 21) := by first | assumption | omega)  (hS : Sp mX7_build true (fr - 1) 0 0 [zR 47, zR (h 1 4), zI 0, zI (h ((h 1 4) + 9) 12), zI 0, zI (-1)] 137 h (rV R)) (hf : 1 ≤ fr := by omega) (kk : ∀ h' : AH, R h' → Wp mX11_sayers (kR fr M1 M2) Q (b1, b2) 41 [zR 1, zI l1] [] 137 h') : Wp mX11_sayers (kR fr M1 M2) Q (b1, b2) 17 [zR 1, zI l1] [] 137 h := by
  refine s_aload_n (x := 1) dX11_sayers_17 rfl ?_
  refine s_getFd (c := 1) (d := 47) dX11_sayers_18 lX11_58 e1 (Or.inl rfl) (by decide) (by decide) ?_
  refine s_aload_n (x := 1) dX11_sayers_21 rfl ?_
  refine s_getR (c := 1) dX11_sayers_22 lX11_27 e1 rfl ?_
  refine s_iconst dX11_sayers_25 ?_
  refine s_aload_n (x := 1) dX11_sayers_26 rfl ?_
  refine s_getR (c := 1) dX11_sayers_27 lX11_27 e1 rfl ?_
  refine s_getFd (c := h 1 4) (d := (h 1 4) + 9) dX11_sayers_30 lX11_197 c1 (Or.inl rfl) rfl (ne0 (fin_X2_15 c1)) ?_
  refine s_bipush dX11_sayers_33 (by decide) ?_
  refine s_iald (c := (h 1 4) + 9) (i := 12) dX11_sayers_35 (fin_X2_15 c1) (by decide) (by decide) ?_
  refine s_iconst dX11_sayers_36 ?_
  refine s_iconst dX11_sayers_37 ?_
  exact s_callV (as := [zR (h 1 4), zI 0, zI (h ((h 1 4) + 9) 12), zI 0, zI (-1)]) (st := []) (o := 47) dX11_sayers_38 kX11_200 rfl ⟨7, 9, TX7, e47, rfl, by decide⟩ rfl rfl (Nat.le_of_ble_eq_true rfl) hS (show fr - 1 + 1 ≤ fr by omega) (Nat.zero_le _) (Nat.zero_le _) (fun v n' h' hP _ => by obtain ⟨e, rfl, hR⟩ := hP; cases e; exact kk h' hR) (fun E n' h' _ z => (rV_nt _ _ _ z).elim)
theorem bX11_sayers_41 {fr M1 M2 b1 b2 : Nat} {Q : RS → Nat → AH → Prop} {h : AH} {l1 : Int} {R : AH → Prop}   (hS : Sp mX9_find true (fr - 1) 0 0 [zR 88, zR (h 1 4), zR 34, zR 51, zR 47] 137 h (rV R)) (hf : 1 ≤ fr := by omega) (kk : ∀ h' : AH, R h' → Wp mX11_sayers (kR fr M1 M2) Q (b1, b2) 64 [zR 1, zI l1] [] 137 h') : Wp mX11_sayers (kR fr M1 M2) Q (b1, b2) 41 [zR 1, zI l1] [] 137 h := by
  refine s_aload_n (x := 1) dX11_sayers_41 rfl ?_
  refine s_getFd (c := 1) (d := 88) dX11_sayers_42 lX11_93 e1 (Or.inl rfl) (by decide) (by decide) ?_
  refine s_aload_n (x := 1) dX11_sayers_45 rfl ?_
  refine s_getR (c := 1) dX11_sayers_46 lX11_27 e1 rfl ?_
  refine s_aload_n (x := 1) dX11_sayers_49 rfl ?_
  refine s_getFd (c := 1) (d := 34) dX11_sayers_50 lX11_37 e1 (Or.inl rfl) (by decide) (by decide) ?_
  refine s_aload_n (x := 1) dX11_sayers_53 rfl ?_
  refine s_getFd (c := 1) (d := 51) dX11_sayers_54 lX11_65 e1 (Or.inl rfl) (by decide) (by decide) ?_
  refine s_aload_n (x := 1) dX11_sayers_57 rfl ?_
  refine s_getFd (c := 1) (d := 47) dX11_sayers_58 lX11_58 e1 (Or.inl rfl) (by decide) (by decide) ?_
  exact s_callV (as := [zR (h 1 4), zR 34, zR 51, zR 47]) (st := []) (o := 88) dX11_sayers_61 kX11_283 rfl ⟨9, 9, TX9, e88, rfl, by decide⟩ rfl rfl (Nat.le_of_ble_eq_true rfl) hS (show fr - 1 + 1 ≤ fr by omega) (Nat.zero_le _) (Nat.zero_le _) (fun v n' h' hP _ => by obtain ⟨e, rfl, hR⟩ := hP; cases e; exact kk h' hR) (fun E n' h' _ z => (rV_nt _ _ _ z).elim)
theorem bX11_sayers_64 {fr M1 M2 b1 b2 : Nat} {Q : RS → Nat → AH → Prop} {h : AH} {l1 : Int}  (r1 : 0 ≤ l1 ∧ l1 < 3 := by omega) (hq : Q (.inl (some (zI (h 89 l1)))) 137 h) : Wp mX11_sayers (kR fr M1 M2) Q (b1, b2) 64 [zR 1, zI l1] [] 137 h := by
  refine s_aload_n (x := 1) dX11_sayers_64 rfl ?_
  refine s_getFd (c := 1) (d := 88) dX11_sayers_65 lX11_93 e1 (Or.inl rfl) (by decide) (by decide) ?_
  refine s_getFd (c := 88) (d := 89) dX11_sayers_68 lX11_286 e88 (Or.inl rfl) (by decide) (by decide) ?_
  refine s_iload_n (x := l1) dX11_sayers_71 rfl ?_
  refine s_iald (c := 89) (i := l1) dX11_sayers_72 e89 r1.1 r1.2 ?_
  exact s_ireturn dX11_sayers_73 ⟨.int, rfl, rfl⟩ hq (fun z => by cases z)
theorem dX11_stand_0 : decode mX11_stand.cd 0 = .ok (.aload_n 0, 1) := by decide +kernel
theorem dX11_stand_1 : decode mX11_stand.cd 1 = .ok (.iload_n 1, 1) := by decide +kernel
theorem dX11_stand_2 : decode mX11_stand.cd 2 = .ok (.invokevirtual 287, 3) := by decide +kernel
theorem dX11_stand_5 : decode mX11_stand.cd 5 = .ok (.iload_n 2, 1) := by decide +kernel
theorem dX11_stand_6 : decode mX11_stand.cd 6 = .ok (.ifCond .lt 19, 3) := by decide +kernel
theorem dX11_stand_9 : decode mX11_stand.cd 9 = .ok (.iload_n 2, 1) := by decide +kernel
theorem dX11_stand_10 : decode mX11_stand.cd 10 = .ok (.bipush 31, 2) := by decide +kernel
theorem dX11_stand_12 : decode mX11_stand.cd 12 = .ok (.if_icmp .ge 13, 3) := by decide +kernel
theorem dX11_stand_15 : decode mX11_stand.cd 15 = .ok (.iload_n 3, 1) := by decide +kernel
theorem dX11_stand_16 : decode mX11_stand.cd 16 = .ok (.ifCond .lt 9, 3) := by decide +kernel
theorem dX11_stand_19 : decode mX11_stand.cd 19 = .ok (.iload_n 3, 1) := by decide +kernel
theorem dX11_stand_20 : decode mX11_stand.cd 20 = .ok (.bipush 31, 2) := by decide +kernel
theorem dX11_stand_22 : decode mX11_stand.cd 22 = .ok (.if_icmp .lt 5, 3) := by decide +kernel
theorem dX11_stand_25 : decode mX11_stand.cd 25 = .ok (.iconst 0, 1) := by decide +kernel
theorem dX11_stand_26 : decode mX11_stand.cd 26 = .ok (.ireturn, 1) := by decide +kernel
theorem dX11_stand_27 : decode mX11_stand.cd 27 = .ok (.aload_n 0, 1) := by decide +kernel
theorem dX11_stand_28 : decode mX11_stand.cd 28 = .ok (.getfield 37, 3) := by decide +kernel
theorem dX11_stand_31 : decode mX11_stand.cd 31 = .ok (.getfield 290, 3) := by decide +kernel
theorem dX11_stand_34 : decode mX11_stand.cd 34 = .ok (.iload_n 1, 1) := by decide +kernel
theorem dX11_stand_35 : decode mX11_stand.cd 35 = .ok (.iload_n 2, 1) := by decide +kernel
theorem dX11_stand_36 : decode mX11_stand.cd 36 = .ok (.iastore, 1) := by decide +kernel
theorem dX11_stand_37 : decode mX11_stand.cd 37 = .ok (.aload_n 0, 1) := by decide +kernel
theorem dX11_stand_38 : decode mX11_stand.cd 38 = .ok (.getfield 37, 3) := by decide +kernel
theorem dX11_stand_41 : decode mX11_stand.cd 41 = .ok (.getfield 293, 3) := by decide +kernel
theorem dX11_stand_44 : decode mX11_stand.cd 44 = .ok (.iload_n 1, 1) := by decide +kernel
theorem dX11_stand_45 : decode mX11_stand.cd 45 = .ok (.iload_n 3, 1) := by decide +kernel
theorem dX11_stand_46 : decode mX11_stand.cd 46 = .ok (.iastore, 1) := by decide +kernel
theorem dX11_stand_47 : decode mX11_stand.cd 47 = .ok (.iconst 1, 1) := by decide +kernel
theorem dX11_stand_48 : decode mX11_stand.cd 48 = .ok (.ireturn, 1) := by decide +kernel
theorem bX11_stand_0 {fr M1 M2 b1 b2 : Nat} {Q : RS → Nat → AH → Prop} {h : AH} {l1 l2 l3 : Int} {R : AH → Prop} {X : String → AH → Prop}   (hS : Sp mX11_needEar true (fr - 1) 1 6 [zR 1, zI l1] 137 h (rVx R X)) (hf : 1 ≤ fr := by omega) (g1 : 1 ≤ b1 := by omega) (g2 : 6 ≤ b2 := by omega) (kk : ∀ h' : AH, R h' → Wp mX11_stand (kR fr M1 M2) Q (b1 - 1, b2 - 6) 5 [zR 1, zI l1, zI l2, zI l3] [] 137 h') (kx : ∀ (E : String) (h' : AH), X E h' → Q (.inr E) 137 h') : Wp mX11_stand (kR fr M1 M2) Q (b1, b2) 0 [zR 1, zI l1, zI l2, zI l3] [] 137 h := by
  refine s_aload_n (x := 1) dX11_stand_0 rfl ?_
  refine s_iload_n (x := l1) dX11_stand_1 rfl ?_
  exact s_callV (as := [zI l1]) (st := []) (o := 1) dX11_stand_2 kX11_287 rfl ⟨11, 18, TX11, e1, rfl, by decide⟩ rfl rfl (Nat.le_of_ble_eq_true rfl) hS (show fr - 1 + 1 ≤ fr by omega) g1 g2 (fun v n' h' hP _ => by
    obtain ⟨rfl, ⟨e, hR⟩ | ⟨E, e, _⟩⟩ := hP
    · cases e; exact kk h' hR
    · cases e) (fun E n' h' _ hP => by
    obtain ⟨rfl, ⟨e, _⟩ | ⟨E', e, hX⟩⟩ := hP
    · cases e
    · cases e; exact x_out rfl rfl rfl (kx E h' hX))
theorem bX11_stand_5 {fr M1 M2 b1 b2 : Nat} {Q : RS → Nat → AH → Prop} {h : AH} {l1 l2 l3 : Int}  (r1 : -2147483648 ≤ l2 ∧ l2 < 2147483648 := by omega) (kt : l2 < 0 → Wp mX11_stand (kR fr M1 M2) Q (b1, b2) 25 [zR 1, zI l1, zI l2, zI l3] [] 137 h) (kf : 0 ≤ l2 → Wp mX11_stand (kR fr M1 M2) Q (b1, b2) 9 [zR 1, zI l1, zI l2, zI l3] [] 137 h) : Wp mX11_stand (kR fr M1 M2) Q (b1, b2) 5 [zR 1, zI l1, zI l2, zI l3] [] 137 h := by
  refine s_iload_n (x := l2) dX11_stand_5 rfl ?_
  exact s_if_lt (tgt := 25) dX11_stand_6 (by decide) r1 kt kf
theorem bX11_stand_9 {fr M1 M2 b1 b2 : Nat} {Q : RS → Nat → AH → Prop} {h : AH} {l1 l2 l3 : Int}  (r1 : -2147483648 ≤ l2 ∧ l2 < 2147483648 := by omega) (kt : 31 ≤ l2 → Wp mX11_stand (kR fr M1 M2) Q (b1, b2) 25 [zR 1, zI l1, zI l2, zI l3] [] 137 h) (kf : l2 < 31 → Wp mX11_stand (kR fr M1 M2) Q (b1, b2) 15 [zR 1, zI l1, zI l2, zI l3] [] 137 h) : Wp mX11_stand (kR fr M1 M2) Q (b1, b2) 9 [zR 1, zI l1, zI l2, zI l3] [] 137 h := by
  refine s_iload_n (x := l2) dX11_stand_9 rfl ?_
  refine s_bipush dX11_stand_10 (by decide) ?_
  exact s_icmp_ge (tgt := 25) dX11_stand_12 (by decide) r1 ⟨by decide, by decide⟩ kt kf
theorem bX11_stand_15 {fr M1 M2 b1 b2 : Nat} {Q : RS → Nat → AH → Prop} {h : AH} {l1 l2 l3 : Int}  (r1 : -2147483648 ≤ l3 ∧ l3 < 2147483648 := by omega) (kt : l3 < 0 → Wp mX11_stand (kR fr M1 M2) Q (b1, b2) 25 [zR 1, zI l1, zI l2, zI l3] [] 137 h) (kf : 0 ≤ l3 → Wp mX11_stand (kR fr M1 M2) Q (b1, b2) 19 [zR 1, zI l1, zI l2, zI l3] [] 137 h) : Wp mX11_stand (kR fr M1 M2) Q (b1, b2) 15 [zR 1, zI l1, zI l2, zI l3] [] 137 h := by
  refine s_iload_n (x := l3) dX11_stand_15 rfl ?_
  exact s_if_lt (tgt := 25) dX11_stand_16 (by decide) r1 kt kf
theorem bX11_stand_19 {fr M1 M2 b1 b2 : Nat} {Q : RS → Nat → AH → Prop} {h : AH} {l1 l2 l3 : Int}  (r1 : -2147483648 ≤ l3 ∧ l3 < 2147483648 := by omega) (kt : l3 < 31 → Wp mX11_stand (kR fr M1 M2) Q (b1, b2) 27 [zR 1, zI l1, zI l2, zI l3] [] 137 h) (kf : 31 ≤ l3 → Wp mX11_stand (kR fr M1 M2) Q (b1, b2) 25 [zR 1, zI l1, zI l2, zI l3] [] 137 h) : Wp mX11_stand (kR fr M1 M2) Q (b1, b2) 19 [zR 1, zI l1, zI l2, zI l3] [] 137 h := by
  refine s_iload_n (x := l3) dX11_stand_19 rfl ?_
  refine s_bipush dX11_stand_20 (by decide) ?_
  exact s_icmp_lt (tgt := 27) dX11_stand_22 (by decide) r1 ⟨by decide, by decide⟩ kt kf
theorem bX11_stand_25 {fr M1 M2 b1 b2 : Nat} {Q : RS → Nat → AH → Prop} {h : AH} {x0 x1 x2 x3 : AV}   (hq : Q (.inl (some (zI 0))) 137 h) : Wp mX11_stand (kR fr M1 M2) Q (b1, b2) 25 [x0, x1, x2, x3] [] 137 h := by
  refine s_fgt (fgt_n _ (fgt_n _ (fgt_n _ (fgt_n _ fgt_0)))) ?_
  refine s_iconst dX11_stand_25 ?_
  exact s_ireturn dX11_stand_26 ⟨.boolean, rfl, by decide⟩ hq (fun z => by cases z)
theorem bX11_stand_27 {fr M1 M2 b1 b2 : Nat} {Q : RS → Nat → AH → Prop} {h : AH} {l1 l2 l3 : Int}  (r1 : 0 ≤ l1 ∧ l1 < 3 := by omega) (hq : Q (.inl (some (zI 1))) 137 (up (up h 38 l1 l2) 39 l1 l3)) : Wp mX11_stand (kR fr M1 M2) Q (b1, b2) 27 [zR 1, zI l1, zI l2, zI l3] [] 137 h := by
  refine s_aload_n (x := 1) dX11_stand_27 rfl ?_
  refine s_getFd (c := 1) (d := 34) dX11_stand_28 lX11_37 e1 (Or.inl rfl) (by decide) (by decide) ?_
  refine s_getFd (c := 34) (d := 38) dX11_stand_31 lX11_290 e34 (Or.inl rfl) (by decide) (by decide) ?_
  refine s_iload_n (x := l1) dX11_stand_34 rfl ?_
  refine s_iload_n (x := l2) dX11_stand_35 rfl ?_
  refine s_iast (c := 38) (i := l1) dX11_stand_36 e38 r1.1 r1.2 ?_
  refine s_aload_n (x := 1) dX11_stand_37 rfl ?_
  refine s_getFd (c := 1) (d := 34) dX11_stand_38 lX11_37 e1 (Or.inl rfl) (by decide) (by decide) ?_
  refine s_getFd (c := 34) (d := 39) dX11_stand_41 lX11_293 e34 (Or.inl rfl) (by decide) (by decide) ?_
  refine s_iload_n (x := l1) dX11_stand_44 rfl ?_
  refine s_iload_n (x := l3) dX11_stand_45 rfl ?_
  refine s_iast (c := 39) (i := l1) dX11_stand_46 e39 r1.1 r1.2 ?_
  refine s_iconst dX11_stand_47 ?_
  exact s_ireturn dX11_stand_48 ⟨.boolean, rfl, by decide⟩ hq (fun z => by cases z)
theorem dX11_matching_0 : decode mX11_matching.cd 0 = .ok (.iload_n 3, 1) := by decide +kernel
theorem dX11_matching_1 : decode mX11_matching.cd 1 = .ok (.iconst (-1), 1) := by decide +kernel
theorem dX11_matching_2 : decode mX11_matching.cd 2 = .ok (.if_icmp .ne 19, 3) := by decide +kernel
theorem dX11_matching_5 : decode mX11_matching.cd 5 = .ok (.aload_n 0, 1) := by decide +kernel
theorem dX11_matching_6 : decode mX11_matching.cd 6 = .ok (.getfield 100, 3) := by decide +kernel
theorem dX11_matching_9 : decode mX11_matching.cd 9 = .ok (.aload_n 0, 1) := by decide +kernel
theorem dX11_matching_10 : decode mX11_matching.cd 10 = .ok (.getfield 37, 3) := by decide +kernel
theorem dX11_matching_13 : decode mX11_matching.cd 13 = .ok (.iload_n 1, 1) := by decide +kernel
theorem dX11_matching_14 : decode mX11_matching.cd 14 = .ok (.iload_n 2, 1) := by decide +kernel
theorem dX11_matching_15 : decode mX11_matching.cd 15 = .ok (.invokevirtual 296, 3) := by decide +kernel
theorem dX11_matching_18 : decode mX11_matching.cd 18 = .ok (.goto 17, 3) := by decide +kernel
theorem dX11_matching_21 : decode mX11_matching.cd 21 = .ok (.aload_n 0, 1) := by decide +kernel
theorem dX11_matching_22 : decode mX11_matching.cd 22 = .ok (.getfield 100, 3) := by decide +kernel
theorem dX11_matching_25 : decode mX11_matching.cd 25 = .ok (.aload_n 0, 1) := by decide +kernel
theorem dX11_matching_26 : decode mX11_matching.cd 26 = .ok (.getfield 37, 3) := by decide +kernel
theorem dX11_matching_29 : decode mX11_matching.cd 29 = .ok (.iload_n 1, 1) := by decide +kernel
theorem dX11_matching_30 : decode mX11_matching.cd 30 = .ok (.iload_n 2, 1) := by decide +kernel
theorem dX11_matching_31 : decode mX11_matching.cd 31 = .ok (.iload_n 3, 1) := by decide +kernel
theorem dX11_matching_32 : decode mX11_matching.cd 32 = .ok (.invokevirtual 300, 3) := by decide +kernel
theorem dX11_matching_35 : decode mX11_matching.cd 35 = .ok (.istore 4, 2) := by decide +kernel
theorem dX11_matching_37 : decode mX11_matching.cd 37 = .ok (.iload 4, 2) := by decide +kernel
theorem dX11_matching_39 : decode mX11_matching.cd 39 = .ok (.iconst (-1), 1) := by decide +kernel
theorem dX11_matching_40 : decode mX11_matching.cd 40 = .ok (.if_icmp .ne 11, 3) := by decide +kernel
theorem dX11_matching_43 : decode mX11_matching.cd 43 = .ok (.new 156, 3) := by decide +kernel
theorem dX11_matching_46 : decode mX11_matching.cd 46 = .ok (.dup, 1) := by decide +kernel
theorem dX11_matching_47 : decode mX11_matching.cd 47 = .ok (.invokespecial 158, 3) := by decide +kernel
theorem dX11_matching_50 : decode mX11_matching.cd 50 = .ok (.athrow, 1) := by decide +kernel
theorem dX11_matching_51 : decode mX11_matching.cd 51 = .ok (.iload 4, 2) := by decide +kernel
theorem dX11_matching_53 : decode mX11_matching.cd 53 = .ok (.ireturn, 1) := by decide +kernel
theorem bX11_matching_0 {fr M1 M2 b1 b2 : Nat} {Q : RS → Nat → AH → Prop} {h : AH} {l1 l2 l3 : Int} {x4 : AV}  (r1 : -2147483648 ≤ l3 ∧ l3 < 2147483648 := by omega) (kt : ¬ l3 = (-1) → Wp mX11_matching (kR fr M1 M2) Q (b1, b2) 21 [zR 1, zI l1, zI l2, zI l3, none] [] 137 h) (kf : l3 = (-1) → Wp mX11_matching (kR fr M1 M2) Q (b1, b2) 5 [zR 1, zI l1, zI l2, zI l3, none] [] 137 h) : Wp mX11_matching (kR fr M1 M2) Q (b1, b2) 0 [zR 1, zI l1, zI l2, zI l3, x4] [] 137 h := by
  refine s_fgt (fgt_c (fgt_c (fgt_c (fgt_c (fgt_n _ fgt_0))))) ?_
  refine s_iload_n (x := l3) dX11_matching_0 rfl ?_
  refine s_iconst dX11_matching_1 ?_
  exact s_icmp_ne (tgt := 21) dX11_matching_2 (by decide) r1 ⟨by decide, by decide⟩ kt kf
theorem bX11_matching_5 {fr M1 M2 b1 b2 : Nat} {Q : RS → Nat → AH → Prop} {h : AH} {l1 l2 : Int} {x3 x4 : AV} {R : Int → AH → Prop}   (hS : Sp mX5_countMatching true (fr - 1) 0 0 [zR 92, zR 34, zI l1, zI l2] 137 h (rI R)) (hf : 1 ≤ fr := by omega) (kk : ∀ (x : Int) (h' : AH), R x h' → Wp mX11_matching (kR fr M1 M2) Q (b1, b2) 18 [zR 1, zI l1, zI l2, none, none] [zI x] 137 h') : Wp mX11_matching (kR fr M1 M2) Q (b1, b2) 5 [zR 1, zI l1, zI l2, x3, x4] [] 137 h := by
  refine s_fgt (fgt_c (fgt_c (fgt_c (fgt_n _ (fgt_n _ fgt_0))))) ?_
  refine s_aload_n (x := 1) dX11_matching_5 rfl ?_
  refine s_getFd (c := 1) (d := 92) dX11_matching_6 lX11_100 e1 (Or.inl rfl) (by decide) (by decide) ?_
  refine s_aload_n (x := 1) dX11_matching_9 rfl ?_
  refine s_getFd (c := 1) (d := 34) dX11_matching_10 lX11_37 e1 (Or.inl rfl) (by decide) (by decide) ?_
  refine s_iload_n (x := l1) dX11_matching_13 rfl ?_
  refine s_iload_n (x := l2) dX11_matching_14 rfl ?_
  exact s_callV (as := [zR 34, zI l1, zI l2]) (st := []) (o := 92) dX11_matching_15 kX11_296 rfl ⟨5, 2, TX5, e92, rfl, by decide⟩ rfl rfl (Nat.le_of_ble_eq_true rfl) hS (show fr - 1 + 1 ≤ fr by omega) (Nat.zero_le _) (Nat.zero_le _) (fun v n' h' hP _ => by obtain ⟨x, e, rfl, hR⟩ := hP; cases e; exact kk x h' hR) (fun E n' h' _ z => (rI_nt _ _ _ z).elim)
theorem bX11_matching_18 {fr M1 M2 b1 b2 : Nat} {Q : RS → Nat → AH → Prop} {h : AH} {s0 : Int} {x0 x1 x2 x3 x4 : AV}   (kk : Wp mX11_matching (kR fr M1 M2) Q (b1, b2) 35 [none, none, none, none, none] [zI s0] 137 h) : Wp mX11_matching (kR fr M1 M2) Q (b1, b2) 18 [x0, x1, x2, x3, x4] [zI s0] 137 h := by
  refine s_fgt (fgt_n _ (fgt_n _ (fgt_n _ (fgt_n _ (fgt_n _ fgt_0))))) ?_
  exact s_goto (tgt := 35) dX11_matching_18 (by decide) kk
theorem bX11_matching_21 {fr M1 M2 b1 b2 : Nat} {Q : RS → Nat → AH → Prop} {h : AH} {l1 l2 l3 : Int} {x4 : AV} {R : Int → AH → Prop}   (hS : Sp mX5_findMatching true (fr - 1) 0 0 [zR 92, zR 34, zI l1, zI l2, zI l3] 137 h (rI R)) (hf : 1 ≤ fr := by omega) (kk : ∀ (x : Int) (h' : AH), R x h' → Wp mX11_matching (kR fr M1 M2) Q (b1, b2) 35 [zR 1, zI l1, zI l2, zI l3, none] [zI x] 137 h') : Wp mX11_matching (kR fr M1 M2) Q (b1, b2) 21 [zR 1, zI l1, zI l2, zI l3, x4] [] 137 h := by
  refine s_fgt (fgt_c (fgt_c (fgt_c (fgt_c (fgt_n _ fgt_0))))) ?_
  refine s_aload_n (x := 1) dX11_matching_21 rfl ?_
  refine s_getFd (c := 1) (d := 92) dX11_matching_22 lX11_100 e1 (Or.inl rfl) (by decide) (by decide) ?_
  refine s_aload_n (x := 1) dX11_matching_25 rfl ?_
  refine s_getFd (c := 1) (d := 34) dX11_matching_26 lX11_37 e1 (Or.inl rfl) (by decide) (by decide) ?_
  refine s_iload_n (x := l1) dX11_matching_29 rfl ?_
  refine s_iload_n (x := l2) dX11_matching_30 rfl ?_
  refine s_iload_n (x := l3) dX11_matching_31 rfl ?_
  exact s_callV (as := [zR 34, zI l1, zI l2, zI l3]) (st := []) (o := 92) dX11_matching_32 kX11_300 rfl ⟨5, 2, TX5, e92, rfl, by decide⟩ rfl rfl (Nat.le_of_ble_eq_true rfl) hS (show fr - 1 + 1 ≤ fr by omega) (Nat.zero_le _) (Nat.zero_le _) (fun v n' h' hP _ => by obtain ⟨x, e, rfl, hR⟩ := hP; cases e; exact kk x h' hR) (fun E n' h' _ z => (rI_nt _ _ _ z).elim)
theorem bX11_matching_35 {fr M1 M2 b1 b2 : Nat} {Q : RS → Nat → AH → Prop} {h : AH} {s0 : Int} {x0 x1 x2 x3 x4 : AV}  (r1 : -2147483648 ≤ s0 ∧ s0 < 2147483648 := by omega) (kt : ¬ s0 = (-1) → Wp mX11_matching (kR fr M1 M2) Q (b1, b2) 51 [none, none, none, none, zI s0] [] 137 h) (kf : s0 = (-1) → Wp mX11_matching (kR fr M1 M2) Q (b1, b2) 43 [none, none, none, none, zI s0] [] 137 h) : Wp mX11_matching (kR fr M1 M2) Q (b1, b2) 35 [x0, x1, x2, x3, x4] [zI s0] 137 h := by
  refine s_fgt (fgt_n _ (fgt_n _ (fgt_n _ (fgt_n _ (fgt_n _ fgt_0))))) ?_
  refine s_istore dX11_matching_35 rfl (by decide) ?_
  refine s_iload (x := s0) dX11_matching_37 rfl ?_
  refine s_iconst dX11_matching_39 ?_
  exact s_icmp_ne (tgt := 51) dX11_matching_40 (by decide) r1 ⟨by decide, by decide⟩ kt kf
theorem bX11_matching_43 {fr M1 M2 b1 b2 : Nat} {Q : RS → Nat → AH → Prop} {h : AH} {x0 x1 x2 x3 x4 : AV}   (f8 : 8 ≤ fr := by omega) (g1 : 1 ≤ b1 := by omega) (g2 : 6 ≤ b2 := by omega) (hq : Q (.inr "java/util/NoSuchElementException") 137 h) : Wp mX11_matching (kR fr M1 M2) Q (b1, b2) 43 [x0, x1, x2, x3, x4] [] 137 h := by
  refine s_fgt (fgt_n _ (fgt_n _ (fgt_n _ (fgt_n _ (fgt_n _ fgt_0))))) ?_
  exact s_throw (Or.inr ⟨rfl, rfl, rfl⟩) rfl dX11_matching_43 dX11_matching_46 dX11_matching_47 dX11_matching_50 rfl rfl rfl f8 (Nat.le_of_ble_eq_true rfl) g1 g2 wd860 wd24 hq
theorem bX11_matching_51 {fr M1 M2 b1 b2 : Nat} {Q : RS → Nat → AH → Prop} {h : AH} {l4 : Int} {x0 x1 x2 x3 : AV}   (hq : Q (.inl (some (zI l4))) 137 h) : Wp mX11_matching (kR fr M1 M2) Q (b1, b2) 51 [x0, x1, x2, x3, zI l4] [] 137 h := by
  refine s_fgt (fgt_n _ (fgt_n _ (fgt_n _ (fgt_n _ (fgt_c fgt_0))))) ?_
  refine s_iload (x := l4) dX11_matching_51 rfl ?_
  exact s_ireturn dX11_matching_53 ⟨.int, rfl, rfl⟩ hq (fun z => by cases z)
theorem dX11_moved_0 : decode mX11_moved.cd 0 = .ok (.iload 5, 2) := by decide +kernel
theorem dX11_moved_2 : decode mX11_moved.cd 2 = .ok (.ifCond .lt 10, 3) := by decide +kernel
theorem dX11_moved_5 : decode mX11_moved.cd 5 = .ok (.iload 5, 2) := by decide +kernel
theorem dX11_moved_7 : decode mX11_moved.cd 7 = .ok (.bipush 60, 2) := by decide +kernel
theorem dX11_moved_9 : decode mX11_moved.cd 9 = .ok (.if_icmp .le 11, 3) := by decide +kernel
theorem dX11_moved_12 : decode mX11_moved.cd 12 = .ok (.new 115, 3) := by decide +kernel
theorem dX11_moved_15 : decode mX11_moved.cd 15 = .ok (.dup, 1) := by decide +kernel
theorem dX11_moved_16 : decode mX11_moved.cd 16 = .ok (.invokespecial 117, 3) := by decide +kernel
theorem dX11_moved_19 : decode mX11_moved.cd 19 = .ok (.athrow, 1) := by decide +kernel
theorem dX11_moved_20 : decode mX11_moved.cd 20 = .ok (.aload_n 0, 1) := by decide +kernel
theorem dX11_moved_21 : decode mX11_moved.cd 21 = .ok (.getfield 100, 3) := by decide +kernel
theorem dX11_moved_24 : decode mX11_moved.cd 24 = .ok (.aload_n 0, 1) := by decide +kernel
theorem dX11_moved_25 : decode mX11_moved.cd 25 = .ok (.getfield 37, 3) := by decide +kernel
theorem dX11_moved_28 : decode mX11_moved.cd 28 = .ok (.iload_n 3, 1) := by decide +kernel
theorem dX11_moved_29 : decode mX11_moved.cd 29 = .ok (.iload 4, 2) := by decide +kernel
theorem dX11_moved_31 : decode mX11_moved.cd 31 = .ok (.invokevirtual 304, 3) := by decide +kernel
theorem dX11_moved_34 : decode mX11_moved.cd 34 = .ok (.aload_n 0, 1) := by decide +kernel
theorem dX11_moved_35 : decode mX11_moved.cd 35 = .ok (.getfield 100, 3) := by decide +kernel
theorem dX11_moved_38 : decode mX11_moved.cd 38 = .ok (.aload_n 0, 1) := by decide +kernel
theorem dX11_moved_39 : decode mX11_moved.cd 39 = .ok (.getfield 37, 3) := by decide +kernel
theorem dX11_moved_42 : decode mX11_moved.cd 42 = .ok (.iload_n 1, 1) := by decide +kernel
theorem dX11_moved_43 : decode mX11_moved.cd 43 = .ok (.iload_n 2, 1) := by decide +kernel
theorem dX11_moved_44 : decode mX11_moved.cd 44 = .ok (.iload 5, 2) := by decide +kernel
theorem dX11_moved_46 : decode mX11_moved.cd 46 = .ok (.invokevirtual 308, 3) := by decide +kernel
theorem dX11_moved_49 : decode mX11_moved.cd 49 = .ok (.ireturn, 1) := by decide +kernel
theorem bX11_moved_0 {fr M1 M2 b1 b2 : Nat} {Q : RS → Nat → AH → Prop} {h : AH} {l1 l2 l3 l4 l5 : Int}  (r1 : -2147483648 ≤ l5 ∧ l5 < 2147483648 := by omega) (kt : l5 < 0 → Wp mX11_moved (kR fr M1 M2) Q (b1, b2) 12 [zR 1, zI l1, zI l2, zI l3, zI l4, zI l5] [] 137 h) (kf : 0 ≤ l5 → Wp mX11_moved (kR fr M1 M2) Q (b1, b2) 5 [zR 1, zI l1, zI l2, zI l3, zI l4, zI l5] [] 137 h) : Wp mX11_moved (kR fr M1 M2) Q (b1, b2) 0 [zR 1, zI l1, zI l2, zI l3, zI l4, zI l5] [] 137 h := by
  refine s_iload (x := l5) dX11_moved_0 rfl ?_
  exact s_if_lt (tgt := 12) dX11_moved_2 (by decide) r1 kt kf
theorem bX11_moved_5 {fr M1 M2 b1 b2 : Nat} {Q : RS → Nat → AH → Prop} {h : AH} {l1 l2 l3 l4 l5 : Int}  (r1 : -2147483648 ≤ l5 ∧ l5 < 2147483648 := by omega) (kt : l5 ≤ 60 → Wp mX11_moved (kR fr M1 M2) Q (b1, b2) 20 [zR 1, zI l1, zI l2, zI l3, zI l4, zI l5] [] 137 h) (kf : 60 < l5 → Wp mX11_moved (kR fr M1 M2) Q (b1, b2) 12 [zR 1, zI l1, zI l2, zI l3, zI l4, zI l5] [] 137 h) : Wp mX11_moved (kR fr M1 M2) Q (b1, b2) 5 [zR 1, zI l1, zI l2, zI l3, zI l4, zI l5] [] 137 h := by
  refine s_iload (x := l5) dX11_moved_5 rfl ?_
  refine s_bipush dX11_moved_7 (by decide) ?_
  exact s_icmp_le (tgt := 20) dX11_moved_9 (by decide) r1 ⟨by decide, by decide⟩ kt kf
theorem bX11_moved_12 {fr M1 M2 b1 b2 : Nat} {Q : RS → Nat → AH → Prop} {h : AH} {x0 x1 x2 x3 x4 x5 : AV}   (f8 : 8 ≤ fr := by omega) (g1 : 1 ≤ b1 := by omega) (g2 : 6 ≤ b2 := by omega) (hq : Q (.inr "java/lang/IllegalArgumentException") 137 h) : Wp mX11_moved (kR fr M1 M2) Q (b1, b2) 12 [x0, x1, x2, x3, x4, x5] [] 137 h := by
  refine s_fgt (fgt_n _ (fgt_n _ (fgt_n _ (fgt_n _ (fgt_n _ (fgt_n _ fgt_0)))))) ?_
  exact s_throw (Or.inl ⟨rfl, rfl, rfl⟩) rfl dX11_moved_12 dX11_moved_15 dX11_moved_16 dX11_moved_19 rfl rfl rfl f8 (Nat.le_of_ble_eq_true rfl) g1 g2 wd637 wd18 hq
theorem bX11_moved_20 {fr M1 M2 b1 b2 : Nat} {Q : RS → Nat → AH → Prop} {h : AH} {l1 l2 l3 l4 l5 : Int} {R : AH → Prop}   (hS : Sp mX5_chart true (fr - 1) 0 0 [zR 92, zR 34, zI l3, zI l4] 137 h (rV R)) (hf : 1 ≤ fr := by omega) (kk : ∀ h' : AH, R h' → Wp mX11_moved (kR fr M1 M2) Q (b1, b2) 34 [zR 1, zI l1, zI l2, zI l3, zI l4, zI l5] [] 137 h') : Wp mX11_moved (kR fr M1 M2) Q (b1, b2) 20 [zR 1, zI l1, zI l2, zI l3, zI l4, zI l5] [] 137 h := by
  refine s_aload_n (x := 1) dX11_moved_20 rfl ?_
  refine s_getFd (c := 1) (d := 92) dX11_moved_21 lX11_100 e1 (Or.inl rfl) (by decide) (by decide) ?_
  refine s_aload_n (x := 1) dX11_moved_24 rfl ?_
  refine s_getFd (c := 1) (d := 34) dX11_moved_25 lX11_37 e1 (Or.inl rfl) (by decide) (by decide) ?_
  refine s_iload_n (x := l3) dX11_moved_28 rfl ?_
  refine s_iload (x := l4) dX11_moved_29 rfl ?_
  exact s_callV (as := [zR 34, zI l3, zI l4]) (st := []) (o := 92) dX11_moved_31 kX11_304 rfl ⟨5, 2, TX5, e92, rfl, by decide⟩ rfl rfl (Nat.le_of_ble_eq_true rfl) hS (show fr - 1 + 1 ≤ fr by omega) (Nat.zero_le _) (Nat.zero_le _) (fun v n' h' hP _ => by obtain ⟨e, rfl, hR⟩ := hP; cases e; exact kk h' hR) (fun E n' h' _ z => (rV_nt _ _ _ z).elim)
theorem bX11_moved_34 {fr M1 M2 b1 b2 : Nat} {Q : RS → Nat → AH → Prop} {h : AH} {l1 l2 l5 : Int} {x3 x4 : AV} {R : Int → AH → Prop}   (hS : Sp mX5_countCouples true (fr - 1) 0 0 [zR 92, zR 34, zI l1, zI l2, zI l5] 137 h (rI R)) (hf : 1 ≤ fr := by omega) (kk : ∀ (x : Int) (h' : AH), R x h' → Wp mX11_moved (kR fr M1 M2) Q (b1, b2) 49 [zR 1, zI l1, zI l2, none, none, zI l5] [zI x] 137 h') : Wp mX11_moved (kR fr M1 M2) Q (b1, b2) 34 [zR 1, zI l1, zI l2, x3, x4, zI l5] [] 137 h := by
  refine s_fgt (fgt_c (fgt_c (fgt_c (fgt_n _ (fgt_n _ (fgt_c fgt_0)))))) ?_
  refine s_aload_n (x := 1) dX11_moved_34 rfl ?_
  refine s_getFd (c := 1) (d := 92) dX11_moved_35 lX11_100 e1 (Or.inl rfl) (by decide) (by decide) ?_
  refine s_aload_n (x := 1) dX11_moved_38 rfl ?_
  refine s_getFd (c := 1) (d := 34) dX11_moved_39 lX11_37 e1 (Or.inl rfl) (by decide) (by decide) ?_
  refine s_iload_n (x := l1) dX11_moved_42 rfl ?_
  refine s_iload_n (x := l2) dX11_moved_43 rfl ?_
  refine s_iload (x := l5) dX11_moved_44 rfl ?_
  exact s_callV (as := [zR 34, zI l1, zI l2, zI l5]) (st := []) (o := 92) dX11_moved_46 kX11_308 rfl ⟨5, 2, TX5, e92, rfl, by decide⟩ rfl rfl (Nat.le_of_ble_eq_true rfl) hS (show fr - 1 + 1 ≤ fr by omega) (Nat.zero_le _) (Nat.zero_le _) (fun v n' h' hP _ => by obtain ⟨x, e, rfl, hR⟩ := hP; cases e; exact kk x h' hR) (fun E n' h' _ z => (rI_nt _ _ _ z).elim)
theorem bX11_moved_49 {fr M1 M2 b1 b2 : Nat} {Q : RS → Nat → AH → Prop} {h : AH} {s0 : Int} {x0 x1 x2 x3 x4 x5 : AV}   (hq : Q (.inl (some (zI s0))) 137 h) : Wp mX11_moved (kR fr M1 M2) Q (b1, b2) 49 [x0, x1, x2, x3, x4, x5] [zI s0] 137 h := by
  refine s_fgt (fgt_n _ (fgt_n _ (fgt_n _ (fgt_n _ (fgt_n _ (fgt_n _ fgt_0)))))) ?_
  exact s_ireturn dX11_moved_49 ⟨.int, rfl, rfl⟩ hq (fun z => by cases z)
theorem dX11_code_0 : decode mX11_code.cd 0 = .ok (.aload_n 0, 1) := by decide +kernel
theorem dX11_code_1 : decode mX11_code.cd 1 = .ok (.iload_n 1, 1) := by decide +kernel
theorem dX11_code_2 : decode mX11_code.cd 2 = .ok (.invokevirtual 183, 3) := by decide +kernel
theorem dX11_code_5 : decode mX11_code.cd 5 = .ok (.iload_n 2, 1) := by decide +kernel
theorem dX11_code_6 : decode mX11_code.cd 6 = .ok (.ifCond .lt 9, 3) := by decide +kernel
theorem dX11_code_9 : decode mX11_code.cd 9 = .ok (.iload_n 2, 1) := by decide +kernel
theorem dX11_code_10 : decode mX11_code.cd 10 = .ok (.bipush 18, 2) := by decide +kernel
theorem dX11_code_12 : decode mX11_code.cd 12 = .ok (.if_icmp .lt 11, 3) := by decide +kernel
theorem dX11_code_15 : decode mX11_code.cd 15 = .ok (.new 156, 3) := by decide +kernel
theorem dX11_code_18 : decode mX11_code.cd 18 = .ok (.dup, 1) := by decide +kernel
theorem dX11_code_19 : decode mX11_code.cd 19 = .ok (.invokespecial 158, 3) := by decide +kernel
theorem dX11_code_22 : decode mX11_code.cd 22 = .ok (.athrow, 1) := by decide +kernel
theorem dX11_code_23 : decode mX11_code.cd 23 = .ok (.aload_n 0, 1) := by decide +kernel
theorem dX11_code_24 : decode mX11_code.cd 24 = .ok (.getfield 58, 3) := by decide +kernel
theorem dX11_code_27 : decode mX11_code.cd 27 = .ok (.aload_n 0, 1) := by decide +kernel
theorem dX11_code_28 : decode mX11_code.cd 28 = .ok (.getfield 27, 3) := by decide +kernel
theorem dX11_code_31 : decode mX11_code.cd 31 = .ok (.iconst 0, 1) := by decide +kernel
theorem dX11_code_32 : decode mX11_code.cd 32 = .ok (.aload_n 0, 1) := by decide +kernel
theorem dX11_code_33 : decode mX11_code.cd 33 = .ok (.getfield 27, 3) := by decide +kernel
theorem dX11_code_36 : decode mX11_code.cd 36 = .ok (.getfield 197, 3) := by decide +kernel
theorem dX11_code_39 : decode mX11_code.cd 39 = .ok (.bipush 12, 2) := by decide +kernel
theorem dX11_code_41 : decode mX11_code.cd 41 = .ok (.iaload, 1) := by decide +kernel
theorem dX11_code_42 : decode mX11_code.cd 42 = .ok (.iconst 0, 1) := by decide +kernel
theorem dX11_code_43 : decode mX11_code.cd 43 = .ok (.iconst (-1), 1) := by decide +kernel
theorem dX11_code_44 : decode mX11_code.cd 44 = .ok (.invokevirtual 200, 3) := by decide +kernel
theorem dX11_code_47 : decode mX11_code.cd 47 = .ok (.aload_n 0, 1) := by decide +kernel
theorem dX11_code_48 : decode mX11_code.cd 48 = .ok (.getfield 107, 3) := by decide +kernel
theorem dX11_code_51 : decode mX11_code.cd 51 = .ok (.aload_n 0, 1) := by decide +kernel
theorem dX11_code_52 : decode mX11_code.cd 52 = .ok (.getfield 27, 3) := by decide +kernel
theorem dX11_code_55 : decode mX11_code.cd 55 = .ok (.aload_n 0, 1) := by decide +kernel
theorem dX11_code_56 : decode mX11_code.cd 56 = .ok (.getfield 65, 3) := by decide +kernel
theorem dX11_code_59 : decode mX11_code.cd 59 = .ok (.aload_n 0, 1) := by decide +kernel
theorem dX11_code_60 : decode mX11_code.cd 60 = .ok (.getfield 58, 3) := by decide +kernel
theorem dX11_code_63 : decode mX11_code.cd 63 = .ok (.iload_n 1, 1) := by decide +kernel
theorem dX11_code_64 : decode mX11_code.cd 64 = .ok (.invokevirtual 311, 3) := by decide +kernel
theorem dX11_code_67 : decode mX11_code.cd 67 = .ok (.iload_n 2, 1) := by decide +kernel
theorem dX11_code_68 : decode mX11_code.cd 68 = .ok (.iconst 2, 1) := by decide +kernel
theorem dX11_code_69 : decode mX11_code.cd 69 = .ok (.if_icmp .lt 15, 3) := by decide +kernel
theorem dX11_code_72 : decode mX11_code.cd 72 = .ok (.aload_n 0, 1) := by decide +kernel
theorem dX11_code_73 : decode mX11_code.cd 73 = .ok (.getfield 107, 3) := by decide +kernel
theorem dX11_code_76 : decode mX11_code.cd 76 = .ok (.getfield 315, 3) := by decide +kernel
theorem dX11_code_79 : decode mX11_code.cd 79 = .ok (.iload_n 2, 1) := by decide +kernel
theorem dX11_code_80 : decode mX11_code.cd 80 = .ok (.iconst 2, 1) := by decide +kernel
theorem dX11_code_81 : decode mX11_code.cd 81 = .ok (.isub, 1) := by decide +kernel
theorem dX11_code_82 : decode mX11_code.cd 82 = .ok (.iaload, 1) := by decide +kernel
theorem dX11_code_83 : decode mX11_code.cd 83 = .ok (.ireturn, 1) := by decide +kernel
theorem dX11_code_84 : decode mX11_code.cd 84 = .ok (.aload_n 0, 1) := by decide +kernel
theorem dX11_code_85 : decode mX11_code.cd 85 = .ok (.getfield 107, 3) := by decide +kernel
theorem dX11_code_88 : decode mX11_code.cd 88 = .ok (.invokevirtual 318, 3) := by decide +kernel
theorem dX11_code_91 : decode mX11_code.cd 91 = .ok (.istore_n 3, 1) := by decide +kernel
theorem dX11_code_92 : decode mX11_code.cd 92 = .ok (.iload_n 2, 1) := by decide +kernel
theorem dX11_code_93 : decode mX11_code.cd 93 = .ok (.ifCond .ne 10, 3) := by decide +kernel
theorem dX11_code_96 : decode mX11_code.cd 96 = .ok (.iload_n 3, 1) := by decide +kernel
theorem dX11_code_97 : decode mX11_code.cd 97 = .ok (.invokestatic 322, 3) := by decide +kernel
theorem dX11_code_100 : decode mX11_code.cd 100 = .ok (.goto 4, 3) := by decide +kernel
theorem dX11_code_103 : decode mX11_code.cd 103 = .ok (.iload_n 3, 1) := by decide +kernel
theorem dX11_code_104 : decode mX11_code.cd 104 = .ok (.ireturn, 1) := by decide +kernel
theorem bX11_code_0 {fr M1 M2 b1 b2 : Nat} {Q : RS → Nat → AH → Prop} {h : AH} {l1 l2 : Int} {x3 : AV} {R : AH → Prop} {X : String → AH → Prop}   (hS : Sp mX11_needSound true (fr - 1) 1 6 [zR 1, zI l1] 137 h (rVx R X)) (hf : 1 ≤ fr := by omega) (g1 : 1 ≤ b1 := by omega) (g2 : 6 ≤ b2 := by omega) (kk : ∀ h' : AH, R h' → Wp mX11_code (kR fr M1 M2) Q (b1 - 1, b2 - 6) 5 [zR 1, zI l1, zI l2, none] [] 137 h') (kx : ∀ (E : String) (h' : AH), X E h' → Q (.inr E) 137 h') : Wp mX11_code (kR fr M1 M2) Q (b1, b2) 0 [zR 1, zI l1, zI l2, x3] [] 137 h := by
  refine s_fgt (fgt_c (fgt_c (fgt_c (fgt_n _ fgt_0)))) ?_
  refine s_aload_n (x := 1) dX11_code_0 rfl ?_
  refine s_iload_n (x := l1) dX11_code_1 rfl ?_
  exact s_callV (as := [zI l1]) (st := []) (o := 1) dX11_code_2 kX11_183 rfl ⟨11, 18, TX11, e1, rfl, by decide⟩ rfl rfl (Nat.le_of_ble_eq_true rfl) hS (show fr - 1 + 1 ≤ fr by omega) g1 g2 (fun v n' h' hP _ => by
    obtain ⟨rfl, ⟨e, hR⟩ | ⟨E, e, _⟩⟩ := hP
    · cases e; exact kk h' hR
    · cases e) (fun E n' h' _ hP => by
    obtain ⟨rfl, ⟨e, _⟩ | ⟨E', e, hX⟩⟩ := hP
    · cases e
    · cases e; exact x_out rfl rfl rfl (kx E h' hX))
theorem bX11_code_5 {fr M1 M2 b1 b2 : Nat} {Q : RS → Nat → AH → Prop} {h : AH} {l1 l2 : Int} {x3 : AV}  (r1 : -2147483648 ≤ l2 ∧ l2 < 2147483648 := by omega) (kt : l2 < 0 → Wp mX11_code (kR fr M1 M2) Q (b1, b2) 15 [zR 1, zI l1, zI l2, none] [] 137 h) (kf : 0 ≤ l2 → Wp mX11_code (kR fr M1 M2) Q (b1, b2) 9 [zR 1, zI l1, zI l2, none] [] 137 h) : Wp mX11_code (kR fr M1 M2) Q (b1, b2) 5 [zR 1, zI l1, zI l2, x3] [] 137 h := by
  refine s_fgt (fgt_c (fgt_c (fgt_c (fgt_n _ fgt_0)))) ?_
  refine s_iload_n (x := l2) dX11_code_5 rfl ?_
  exact s_if_lt (tgt := 15) dX11_code_6 (by decide) r1 kt kf
theorem bX11_code_9 {fr M1 M2 b1 b2 : Nat} {Q : RS → Nat → AH → Prop} {h : AH} {l1 l2 : Int} {x3 : AV}  (r1 : -2147483648 ≤ l2 ∧ l2 < 2147483648 := by omega) (kt : l2 < 18 → Wp mX11_code (kR fr M1 M2) Q (b1, b2) 23 [zR 1, zI l1, zI l2, none] [] 137 h) (kf : 18 ≤ l2 → Wp mX11_code (kR fr M1 M2) Q (b1, b2) 15 [zR 1, zI l1, zI l2, none] [] 137 h) : Wp mX11_code (kR fr M1 M2) Q (b1, b2) 9 [zR 1, zI l1, zI l2, x3] [] 137 h := by
  refine s_fgt (fgt_c (fgt_c (fgt_c (fgt_n _ fgt_0)))) ?_
  refine s_iload_n (x := l2) dX11_code_9 rfl ?_
  refine s_bipush dX11_code_10 (by decide) ?_
  exact s_icmp_lt (tgt := 23) dX11_code_12 (by decide) r1 ⟨by decide, by decide⟩ kt kf
theorem bX11_code_15 {fr M1 M2 b1 b2 : Nat} {Q : RS → Nat → AH → Prop} {h : AH} {x0 x1 x2 x3 : AV}   (f8 : 8 ≤ fr := by omega) (g1 : 1 ≤ b1 := by omega) (g2 : 6 ≤ b2 := by omega) (hq : Q (.inr "java/util/NoSuchElementException") 137 h) : Wp mX11_code (kR fr M1 M2) Q (b1, b2) 15 [x0, x1, x2, x3] [] 137 h := by
  refine s_fgt (fgt_n _ (fgt_n _ (fgt_n _ (fgt_n _ fgt_0)))) ?_
  exact s_throw (Or.inr ⟨rfl, rfl, rfl⟩) rfl dX11_code_15 dX11_code_18 dX11_code_19 dX11_code_22 rfl rfl rfl f8 (Nat.le_of_ble_eq_true rfl) g1 g2 wd860 wd24 hq
theorem bX11_code_23 {fr M1 M2 b1 b2 : Nat} {Q : RS → Nat → AH → Prop} {h : AH} {l1 l2 : Int} {x3 : AV} {R : AH → Prop} (c1 : cel 137 (h 1 4) (2, 21) := by first | assumption | omega)  (hS : Sp mX7_build true (fr - 1) 0 0 [zR 47, zR (h 1 4), zI 0, zI (h ((h 1 4) + 9) 12), zI 0, zI (-1)] 137 h (rV R)) (hf : 1 ≤ fr := by omega) (kk : ∀ h' : AH, R h' → Wp mX11_code (kR fr M1 M2) Q (b1, b2) 47 [zR 1, zI l1, zI l2, none] [] 137 h') : Wp mX11_code (kR fr M1 M2) Q (b1, b2) 23 [zR 1, zI l1, zI l2, x3] [] 137 h := by
  refine s_fgt (fgt_c (fgt_c (fgt_c (fgt_n _ fgt_0)))) ?_
  refine s_aload_n (x := 1) dX11_code_23 rfl ?_
  refine s_getFd (c := 1) (d := 47) dX11_code_24 lX11_58 e1 (Or.inl rfl) (by decide) (by decide) ?_
  refine s_aload_n (x := 1) dX11_code_27 rfl ?_
  refine s_getR (c := 1) dX11_code_28 lX11_27 e1 rfl ?_
  refine s_iconst dX11_code_31 ?_
  refine s_aload_n (x := 1) dX11_code_32 rfl ?_
  refine s_getR (c := 1) dX11_code_33 lX11_27 e1 rfl ?_
  refine s_getFd (c := h 1 4) (d := (h 1 4) + 9) dX11_code_36 lX11_197 c1 (Or.inl rfl) rfl (ne0 (fin_X2_15 c1)) ?_
  refine s_bipush dX11_code_39 (by decide) ?_
  refine s_iald (c := (h 1 4) + 9) (i := 12) dX11_code_41 (fin_X2_15 c1) (by decide) (by decide) ?_
  refine s_iconst dX11_code_42 ?_
  refine s_iconst dX11_code_43 ?_
  exact s_callV (as := [zR (h 1 4), zI 0, zI (h ((h 1 4) + 9) 12), zI 0, zI (-1)]) (st := []) (o := 47) dX11_code_44 kX11_200 rfl ⟨7, 9, TX7, e47, rfl, by decide⟩ rfl rfl (Nat.le_of_ble_eq_true rfl) hS (show fr - 1 + 1 ≤ fr by omega) (Nat.zero_le _) (Nat.zero_le _) (fun v n' h' hP _ => by obtain ⟨e, rfl, hR⟩ := hP; cases e; exact kk h' hR) (fun E n' h' _ z => (rV_nt _ _ _ z).elim)
theorem bX11_code_47 {fr M1 M2 b1 b2 : Nat} {Q : RS → Nat → AH → Prop} {h : AH} {l1 l2 : Int} {x3 : AV} {R : AH → Prop}   (hS : Sp mX1_compare true (fr - 1) 0 0 [zR 95, zR (h 1 4), zR 51, zR 47, zI l1] 137 h (rV R)) (hf : 1 ≤ fr := by omega) (kk : ∀ h' : AH, R h' → Wp mX11_code (kR fr M1 M2) Q (b1, b2) 67 [zR 1, zI l1, zI l2, none] [] 137 h') : Wp mX11_code (kR fr M1 M2) Q (b1, b2) 47 [zR 1, zI l1, zI l2, x3] [] 137 h := by
  refine s_fgt (fgt_c (fgt_c (fgt_c (fgt_n _ fgt_0)))) ?_
  refine s_aload_n (x := 1) dX11_code_47 rfl ?_
  refine s_getFd (c := 1) (d := 95) dX11_code_48 lX11_107 e1 (Or.inl rfl) (by decide) (by decide) ?_
  refine s_aload_n (x := 1) dX11_code_51 rfl ?_
  refine s_getR (c := 1) dX11_code_52 lX11_27 e1 rfl ?_
  refine s_aload_n (x := 1) dX11_code_55 rfl ?_
  refine s_getFd (c := 1) (d := 51) dX11_code_56 lX11_65 e1 (Or.inl rfl) (by decide) (by decide) ?_
  refine s_aload_n (x := 1) dX11_code_59 rfl ?_
  refine s_getFd (c := 1) (d := 47) dX11_code_60 lX11_58 e1 (Or.inl rfl) (by decide) (by decide) ?_
  refine s_iload_n (x := l1) dX11_code_63 rfl ?_
  exact s_callV (as := [zR (h 1 4), zR 51, zR 47, zI l1]) (st := []) (o := 95) dX11_code_64 kX11_311 rfl ⟨1, 5, TX1, e95, rfl, by decide⟩ rfl rfl (Nat.le_of_ble_eq_true rfl) hS (show fr - 1 + 1 ≤ fr by omega) (Nat.zero_le _) (Nat.zero_le _) (fun v n' h' hP _ => by obtain ⟨e, rfl, hR⟩ := hP; cases e; exact kk h' hR) (fun E n' h' _ z => (rV_nt _ _ _ z).elim)
theorem bX11_code_67 {fr M1 M2 b1 b2 : Nat} {Q : RS → Nat → AH → Prop} {h : AH} {l2 : Int} {x1 x3 : AV}  (r1 : -2147483648 ≤ l2 ∧ l2 < 2147483648 := by omega) (kt : l2 < 2 → Wp mX11_code (kR fr M1 M2) Q (b1, b2) 84 [zR 1, none, zI l2, none] [] 137 h) (kf : 2 ≤ l2 → Wp mX11_code (kR fr M1 M2) Q (b1, b2) 72 [zR 1, none, zI l2, none] [] 137 h) : Wp mX11_code (kR fr M1 M2) Q (b1, b2) 67 [zR 1, x1, zI l2, x3] [] 137 h := by
  refine s_fgt (fgt_c (fgt_n _ (fgt_c (fgt_n _ fgt_0)))) ?_
  refine s_iload_n (x := l2) dX11_code_67 rfl ?_
  refine s_iconst dX11_code_68 ?_
  exact s_icmp_lt (tgt := 84) dX11_code_69 (by decide) r1 ⟨by decide, by decide⟩ kt kf
theorem bX11_code_72 {fr M1 M2 b1 b2 : Nat} {Q : RS → Nat → AH → Prop} {h : AH} {l2 : Int} {x1 x3 : AV}  (r1 : 0 ≤ l2 - 2 ∧ l2 - 2 < 16 := by omega) (hq : Q (.inl (some (zI (h 96 (l2 - 2))))) 137 h) : Wp mX11_code (kR fr M1 M2) Q (b1, b2) 72 [zR 1, x1, zI l2, x3] [] 137 h := by
  refine s_fgt (fgt_c (fgt_n _ (fgt_c (fgt_n _ fgt_0)))) ?_
  refine s_aload_n (x := 1) dX11_code_72 rfl ?_
  refine s_getFd (c := 1) (d := 95) dX11_code_73 lX11_107 e1 (Or.inl rfl) (by decide) (by decide) ?_
  refine s_getFd (c := 95) (d := 96) dX11_code_76 lX11_315 e95 (Or.inl rfl) (by decide) (by decide) ?_
  refine s_iload_n (x := l2) dX11_code_79 rfl ?_
  refine s_iconst dX11_code_80 ?_
  refine s_isub dX11_code_81 ?_
  refine s_iald (c := 96) (i := l2 - 2) dX11_code_82 e96 r1.1 r1.2 ?_
  exact s_ireturn dX11_code_83 ⟨.int, rfl, rfl⟩ hq (fun z => by cases z)
theorem bX11_code_84 {fr M1 M2 b1 b2 : Nat} {Q : RS → Nat → AH → Prop} {h : AH} {l2 : Int} {x1 x3 : AV} {R : Int → AH → Prop}   (hS : Sp mX1_choose true (fr - 1) 0 0 [zR 95] 137 h (rI R)) (hf : 1 ≤ fr := by omega) (kk : ∀ (x : Int) (h' : AH), R x h' → Wp mX11_code (kR fr M1 M2) Q (b1, b2) 91 [zR 1, none, zI l2, none] [zI x] 137 h') : Wp mX11_code (kR fr M1 M2) Q (b1, b2) 84 [zR 1, x1, zI l2, x3] [] 137 h := by
  refine s_fgt (fgt_c (fgt_n _ (fgt_c (fgt_n _ fgt_0)))) ?_
  refine s_aload_n (x := 1) dX11_code_84 rfl ?_
  refine s_getFd (c := 1) (d := 95) dX11_code_85 lX11_107 e1 (Or.inl rfl) (by decide) (by decide) ?_
  exact s_callV (as := []) (st := []) (o := 95) dX11_code_88 kX11_318 rfl ⟨1, 5, TX1, e95, rfl, by decide⟩ rfl rfl (Nat.le_of_ble_eq_true rfl) hS (show fr - 1 + 1 ≤ fr by omega) (Nat.zero_le _) (Nat.zero_le _) (fun v n' h' hP _ => by obtain ⟨x, e, rfl, hR⟩ := hP; cases e; exact kk x h' hR) (fun E n' h' _ z => (rI_nt _ _ _ z).elim)
theorem bX11_code_91 {fr M1 M2 b1 b2 : Nat} {Q : RS → Nat → AH → Prop} {h : AH} {l2 s0 : Int} {x0 x1 x3 : AV}  (r1 : -2147483648 ≤ l2 ∧ l2 < 2147483648 := by omega) (kt : ¬ l2 = 0 → Wp mX11_code (kR fr M1 M2) Q (b1, b2) 103 [none, none, zI l2, zI s0] [] 137 h) (kf : l2 = 0 → Wp mX11_code (kR fr M1 M2) Q (b1, b2) 96 [none, none, zI l2, zI s0] [] 137 h) : Wp mX11_code (kR fr M1 M2) Q (b1, b2) 91 [x0, x1, zI l2, x3] [zI s0] 137 h := by
  refine s_fgt (fgt_n _ (fgt_n _ (fgt_c (fgt_n _ fgt_0)))) ?_
  refine s_istore_n dX11_code_91 rfl (by decide) ?_
  refine s_iload_n (x := l2) dX11_code_92 rfl ?_
  exact s_if_ne (tgt := 103) dX11_code_93 (by decide) r1 kt kf
theorem bX11_code_96 {fr M1 M2 b1 b2 : Nat} {Q : RS → Nat → AH → Prop} {h : AH} {l3 : Int} {x0 x1 x2 : AV} {R : Int → AH → Prop}   (hS : Sp mJ6_bitCount_0f7a4 true (fr - 1) 0 0 [zI l3] 137 h (rI R)) (hf : 1 ≤ fr := by omega) (kk : ∀ (x : Int) (h' : AH), R x h' → Wp mX11_code (kR fr M1 M2) Q (b1, b2) 100 [none, none, none, zI l3] [zI x] 137 h') : Wp mX11_code (kR fr M1 M2) Q (b1, b2) 96 [x0, x1, x2, zI l3] [] 137 h := by
  refine s_fgt (fgt_n _ (fgt_n _ (fgt_n _ (fgt_c fgt_0)))) ?_
  refine s_iload_n (x := l3) dX11_code_96 rfl ?_
  exact s_callS (as := [zI l3]) (st := []) dX11_code_97 kX11_322 rfl rfl (Nat.le_of_ble_eq_true rfl) hS (show fr - 1 + 1 ≤ fr by omega) (Nat.zero_le _) (Nat.zero_le _) (fun v n' h' hP _ => by obtain ⟨x, e, rfl, hR⟩ := hP; cases e; exact kk x h' hR) (fun E n' h' _ z => (rI_nt _ _ _ z).elim)
theorem bX11_code_100 {fr M1 M2 b1 b2 : Nat} {Q : RS → Nat → AH → Prop} {h : AH} {s0 : Int} {x0 x1 x2 x3 : AV}   (kk : Wp mX11_code (kR fr M1 M2) Q (b1, b2) 104 [none, none, none, none] [zI s0] 137 h) : Wp mX11_code (kR fr M1 M2) Q (b1, b2) 100 [x0, x1, x2, x3] [zI s0] 137 h := by
  refine s_fgt (fgt_n _ (fgt_n _ (fgt_n _ (fgt_n _ fgt_0)))) ?_
  exact s_goto (tgt := 104) dX11_code_100 (by decide) kk
theorem bX11_code_103 {fr M1 M2 b1 b2 : Nat} {Q : RS → Nat → AH → Prop} {h : AH} {l3 : Int} {x0 x1 x2 : AV}   (kk : Wp mX11_code (kR fr M1 M2) Q (b1, b2) 104 [none, none, none, zI l3] [zI l3] 137 h) : Wp mX11_code (kR fr M1 M2) Q (b1, b2) 103 [x0, x1, x2, zI l3] [] 137 h := by
  refine s_fgt (fgt_n _ (fgt_n _ (fgt_n _ (fgt_c fgt_0)))) ?_
  refine s_iload_n (x := l3) dX11_code_103 rfl ?_
  exact kk
theorem bX11_code_104 {fr M1 M2 b1 b2 : Nat} {Q : RS → Nat → AH → Prop} {h : AH} {s0 : Int} {x0 x1 x2 x3 : AV}   (hq : Q (.inl (some (zI s0))) 137 h) : Wp mX11_code (kR fr M1 M2) Q (b1, b2) 104 [x0, x1, x2, x3] [zI s0] 137 h := by
  refine s_fgt (fgt_n _ (fgt_n _ (fgt_n _ (fgt_n _ fgt_0)))) ?_
  exact s_ireturn dX11_code_104 ⟨.int, rfl, rfl⟩ hq (fun z => by cases z)
theorem dX11_image_0 : decode mX11_image.cd 0 = .ok (.aload_n 0, 1) := by decide +kernel
theorem dX11_image_1 : decode mX11_image.cd 1 = .ok (.getfield 41, 3) := by decide +kernel
theorem dX11_image_4 : decode mX11_image.cd 4 = .ok (.aload_n 0, 1) := by decide +kernel
theorem dX11_image_5 : decode mX11_image.cd 5 = .ok (.getfield 37, 3) := by decide +kernel
theorem dX11_image_8 : decode mX11_image.cd 8 = .ok (.invokevirtual 327, 3) := by decide +kernel
theorem dX11_image_11 : decode mX11_image.cd 11 = .ok (.aload_n 0, 1) := by decide +kernel
theorem dX11_image_12 : decode mX11_image.cd 12 = .ok (.iconst 1, 1) := by decide +kernel
theorem dX11_image_13 : decode mX11_image.cd 13 = .ok (.putfield 44, 3) := by decide +kernel
theorem dX11_image_16 : decode mX11_image.cd 16 = .ok (.return_, 1) := by decide +kernel
theorem bX11_image_0 {fr M1 M2 b1 b2 : Nat} {Q : RS → Nat → AH → Prop} {h : AH} {R : AH → Prop}   (hS : Sp mX8_copy true (fr - 1) 0 0 [zR 40, zR 34] 137 h (rV R)) (hf : 1 ≤ fr := by omega) (kk : ∀ h' : AH, R h' → Wp mX11_image (kR fr M1 M2) Q (b1, b2) 11 [zR 1] [] 137 h') : Wp mX11_image (kR fr M1 M2) Q (b1, b2) 0 [zR 1] [] 137 h := by
  refine s_aload_n (x := 1) dX11_image_0 rfl ?_
  refine s_getFd (c := 1) (d := 40) dX11_image_1 lX11_41 e1 (Or.inl rfl) (by decide) (by decide) ?_
  refine s_aload_n (x := 1) dX11_image_4 rfl ?_
  refine s_getFd (c := 1) (d := 34) dX11_image_5 lX11_37 e1 (Or.inl rfl) (by decide) (by decide) ?_
  exact s_callV (as := [zR 34]) (st := []) (o := 40) dX11_image_8 kX11_327 rfl ⟨8, 8, TX8, e40, rfl, by decide⟩ rfl rfl (Nat.le_of_ble_eq_true rfl) hS (show fr - 1 + 1 ≤ fr by omega) (Nat.zero_le _) (Nat.zero_le _) (fun v n' h' hP _ => by obtain ⟨e, rfl, hR⟩ := hP; cases e; exact kk h' hR) (fun E n' h' _ z => (rV_nt _ _ _ z).elim)
theorem bX11_image_11 {fr M1 M2 b1 b2 : Nat} {Q : RS → Nat → AH → Prop} {h : AH}   (hq : Q (.inl none) 137 (up h 1 8 1)) : Wp mX11_image (kR fr M1 M2) Q (b1, b2) 11 [zR 1] [] 137 h := by
  refine s_aload_n (x := 1) dX11_image_11 rfl ?_
  refine s_iconst dX11_image_12 ?_
  refine s_putZ (c := 1) dX11_image_13 lX11_44 e1 (by decide) ?_
  exact s_return dX11_image_16 rfl hq (fun z => by cases z)
theorem dX11_restore_0 : decode mX11_restore.cd 0 = .ok (.aload_n 0, 1) := by decide +kernel
theorem dX11_restore_1 : decode mX11_restore.cd 1 = .ok (.getfield 44, 3) := by decide +kernel
theorem dX11_restore_4 : decode mX11_restore.cd 4 = .ok (.ifCond .ne 5, 3) := by decide +kernel
theorem dX11_restore_7 : decode mX11_restore.cd 7 = .ok (.iconst 0, 1) := by decide +kernel
theorem dX11_restore_8 : decode mX11_restore.cd 8 = .ok (.ireturn, 1) := by decide +kernel
theorem dX11_restore_9 : decode mX11_restore.cd 9 = .ok (.aload_n 0, 1) := by decide +kernel
theorem dX11_restore_10 : decode mX11_restore.cd 10 = .ok (.getfield 37, 3) := by decide +kernel
theorem dX11_restore_13 : decode mX11_restore.cd 13 = .ok (.aload_n 0, 1) := by decide +kernel
theorem dX11_restore_14 : decode mX11_restore.cd 14 = .ok (.getfield 41, 3) := by decide +kernel
theorem dX11_restore_17 : decode mX11_restore.cd 17 = .ok (.invokevirtual 327, 3) := by decide +kernel
theorem dX11_restore_20 : decode mX11_restore.cd 20 = .ok (.aload_n 0, 1) := by decide +kernel
theorem dX11_restore_21 : decode mX11_restore.cd 21 = .ok (.getfield 86, 3) := by decide +kernel
theorem dX11_restore_24 : decode mX11_restore.cd 24 = .ok (.invokevirtual 133, 3) := by decide +kernel
theorem dX11_restore_27 : decode mX11_restore.cd 27 = .ok (.aload_n 0, 1) := by decide +kernel
theorem dX11_restore_28 : decode mX11_restore.cd 28 = .ok (.getfield 93, 3) := by decide +kernel
theorem dX11_restore_31 : decode mX11_restore.cd 31 = .ok (.invokevirtual 134, 3) := by decide +kernel
theorem dX11_restore_34 : decode mX11_restore.cd 34 = .ok (.iconst 1, 1) := by decide +kernel
theorem dX11_restore_35 : decode mX11_restore.cd 35 = .ok (.ireturn, 1) := by decide +kernel
theorem bX11_restore_0 {fr M1 M2 b1 b2 : Nat} {Q : RS → Nat → AH → Prop} {h : AH}  (r1 : -2147483648 ≤ h 1 8 ∧ h 1 8 < 2147483648 := by omega) (kt : ¬ h 1 8 = 0 → Wp mX11_restore (kR fr M1 M2) Q (b1, b2) 9 [zR 1] [] 137 h) (kf : h 1 8 = 0 → Wp mX11_restore (kR fr M1 M2) Q (b1, b2) 7 [zR 1] [] 137 h) : Wp mX11_restore (kR fr M1 M2) Q (b1, b2) 0 [zR 1] [] 137 h := by
  refine s_aload_n (x := 1) dX11_restore_0 rfl ?_
  refine s_get (c := 1) dX11_restore_1 lX11_44 e1 (by decide) ?_
  exact s_if_ne (tgt := 9) dX11_restore_4 (by decide) r1 kt kf
theorem bX11_restore_7 {fr M1 M2 b1 b2 : Nat} {Q : RS → Nat → AH → Prop} {h : AH} {x0 : AV}   (hq : Q (.inl (some (zI 0))) 137 h) : Wp mX11_restore (kR fr M1 M2) Q (b1, b2) 7 [x0] [] 137 h := by
  refine s_fgt (fgt_n _ fgt_0) ?_
  refine s_iconst dX11_restore_7 ?_
  exact s_ireturn dX11_restore_8 ⟨.boolean, rfl, by decide⟩ hq (fun z => by cases z)
theorem bX11_restore_9 {fr M1 M2 b1 b2 : Nat} {Q : RS → Nat → AH → Prop} {h : AH} {R : AH → Prop}   (hS : Sp mX8_copy true (fr - 1) 0 0 [zR 34, zR 40] 137 h (rV R)) (hf : 1 ≤ fr := by omega) (kk : ∀ h' : AH, R h' → Wp mX11_restore (kR fr M1 M2) Q (b1, b2) 20 [zR 1] [] 137 h') : Wp mX11_restore (kR fr M1 M2) Q (b1, b2) 9 [zR 1] [] 137 h := by
  refine s_aload_n (x := 1) dX11_restore_9 rfl ?_
  refine s_getFd (c := 1) (d := 34) dX11_restore_10 lX11_37 e1 (Or.inl rfl) (by decide) (by decide) ?_
  refine s_aload_n (x := 1) dX11_restore_13 rfl ?_
  refine s_getFd (c := 1) (d := 40) dX11_restore_14 lX11_41 e1 (Or.inl rfl) (by decide) (by decide) ?_
  exact s_callV (as := [zR 40]) (st := []) (o := 34) dX11_restore_17 kX11_327 rfl ⟨8, 8, TX8, e34, rfl, by decide⟩ rfl rfl (Nat.le_of_ble_eq_true rfl) hS (show fr - 1 + 1 ≤ fr by omega) (Nat.zero_le _) (Nat.zero_le _) (fun v n' h' hP _ => by obtain ⟨e, rfl, hR⟩ := hP; cases e; exact kk h' hR) (fun E n' h' _ z => (rV_nt _ _ _ z).elim)
theorem bX11_restore_20 {fr M1 M2 b1 b2 : Nat} {Q : RS → Nat → AH → Prop} {h : AH} {R : AH → Prop}   (hS : Sp mX3_forget true (fr - 1) 0 0 [zR 82] 137 h (rV R)) (hf : 1 ≤ fr := by omega) (kk : ∀ h' : AH, R h' → Wp mX11_restore (kR fr M1 M2) Q (b1, b2) 27 [zR 1] [] 137 h') : Wp mX11_restore (kR fr M1 M2) Q (b1, b2) 20 [zR 1] [] 137 h := by
  refine s_aload_n (x := 1) dX11_restore_20 rfl ?_
  refine s_getFd (c := 1) (d := 82) dX11_restore_21 lX11_86 e1 (Or.inl rfl) (by decide) (by decide) ?_
  exact s_callV (as := []) (st := []) (o := 82) dX11_restore_24 kX11_133 rfl ⟨3, 8, TX3, e82, rfl, by decide⟩ rfl rfl (Nat.le_of_ble_eq_true rfl) hS (show fr - 1 + 1 ≤ fr by omega) (Nat.zero_le _) (Nat.zero_le _) (fun v n' h' hP _ => by obtain ⟨e, rfl, hR⟩ := hP; cases e; exact kk h' hR) (fun E n' h' _ z => (rV_nt _ _ _ z).elim)
theorem bX11_restore_27 {fr M1 M2 b1 b2 : Nat} {Q : RS → Nat → AH → Prop} {h : AH} {R : AH → Prop}   (hS : Sp mX9_forget true (fr - 1) 0 0 [zR 88] 137 h (rV R)) (hf : 1 ≤ fr := by omega) (kk : ∀ h' : AH, R h' → Wp mX11_restore (kR fr M1 M2) Q (b1, b2) 34 [zR 1] [] 137 h') : Wp mX11_restore (kR fr M1 M2) Q (b1, b2) 27 [zR 1] [] 137 h := by
  refine s_aload_n (x := 1) dX11_restore_27 rfl ?_
  refine s_getFd (c := 1) (d := 88) dX11_restore_28 lX11_93 e1 (Or.inl rfl) (by decide) (by decide) ?_
  exact s_callV (as := []) (st := []) (o := 88) dX11_restore_31 kX11_134 rfl ⟨9, 9, TX9, e88, rfl, by decide⟩ rfl rfl (Nat.le_of_ble_eq_true rfl) hS (show fr - 1 + 1 ≤ fr by omega) (Nat.zero_le _) (Nat.zero_le _) (fun v n' h' hP _ => by obtain ⟨e, rfl, hR⟩ := hP; cases e; exact kk h' hR) (fun E n' h' _ z => (rV_nt _ _ _ z).elim)
theorem bX11_restore_34 {fr M1 M2 b1 b2 : Nat} {Q : RS → Nat → AH → Prop} {h : AH} {x0 : AV}   (hq : Q (.inl (some (zI 1))) 137 h) : Wp mX11_restore (kR fr M1 M2) Q (b1, b2) 34 [x0] [] 137 h := by
  refine s_fgt (fgt_n _ fgt_0) ?_
  refine s_iconst dX11_restore_34 ?_
  exact s_ireturn dX11_restore_35 ⟨.boolean, rfl, by decide⟩ hq (fun z => by cases z)
theorem dX11_needSound_0 : decode mX11_needSound.cd 0 = .ok (.iload_n 1, 1) := by decide +kernel
theorem dX11_needSound_1 : decode mX11_needSound.cd 1 = .ok (.ifCond .lt 14, 3) := by decide +kernel
theorem dX11_needSound_4 : decode mX11_needSound.cd 4 = .ok (.iload_n 1, 1) := by decide +kernel
theorem dX11_needSound_5 : decode mX11_needSound.cd 5 = .ok (.aload_n 0, 1) := by decide +kernel
theorem dX11_needSound_6 : decode mX11_needSound.cd 6 = .ok (.getfield 27, 3) := by decide +kernel
theorem dX11_needSound_9 : decode mX11_needSound.cd 9 = .ok (.getfield 135, 3) := by decide +kernel
theorem dX11_needSound_12 : decode mX11_needSound.cd 12 = .ok (.if_icmp .lt 11, 3) := by decide +kernel
theorem dX11_needSound_15 : decode mX11_needSound.cd 15 = .ok (.new 156, 3) := by decide +kernel
theorem dX11_needSound_18 : decode mX11_needSound.cd 18 = .ok (.dup, 1) := by decide +kernel
theorem dX11_needSound_19 : decode mX11_needSound.cd 19 = .ok (.invokespecial 158, 3) := by decide +kernel
theorem dX11_needSound_22 : decode mX11_needSound.cd 22 = .ok (.athrow, 1) := by decide +kernel
theorem dX11_needSound_23 : decode mX11_needSound.cd 23 = .ok (.return_, 1) := by decide +kernel
theorem bX11_needSound_0 {fr M1 M2 b1 b2 : Nat} {Q : RS → Nat → AH → Prop} {h : AH} {l1 : Int}  (r1 : -2147483648 ≤ l1 ∧ l1 < 2147483648 := by omega) (kt : l1 < 0 → Wp mX11_needSound (kR fr M1 M2) Q (b1, b2) 15 [zR 1, zI l1] [] 137 h) (kf : 0 ≤ l1 → Wp mX11_needSound (kR fr M1 M2) Q (b1, b2) 4 [zR 1, zI l1] [] 137 h) : Wp mX11_needSound (kR fr M1 M2) Q (b1, b2) 0 [zR 1, zI l1] [] 137 h := by
  refine s_iload_n (x := l1) dX11_needSound_0 rfl ?_
  exact s_if_lt (tgt := 15) dX11_needSound_1 (by decide) r1 kt kf
theorem bX11_needSound_4 {fr M1 M2 b1 b2 : Nat} {Q : RS → Nat → AH → Prop} {h : AH} {l1 : Int} (c1 : cel 137 (h 1 4) (2, 21) := by first | assumption | omega) (r1 : -2147483648 ≤ l1 ∧ l1 < 2147483648 := by omega) (r2 : -2147483648 ≤ h (h 1 4) 0 ∧ h (h 1 4) 0 < 2147483648 := by omega) (kt : l1 < h (h 1 4) 0 → Wp mX11_needSound (kR fr M1 M2) Q (b1, b2) 23 [zR 1, zI l1] [] 137 h) (kf : h (h 1 4) 0 ≤ l1 → Wp mX11_needSound (kR fr M1 M2) Q (b1, b2) 15 [zR 1, zI l1] [] 137 h) : Wp mX11_needSound (kR fr M1 M2) Q (b1, b2) 4 [zR 1, zI l1] [] 137 h := by
  refine s_iload_n (x := l1) dX11_needSound_4 rfl ?_
  refine s_aload_n (x := 1) dX11_needSound_5 rfl ?_
  refine s_getR (c := 1) dX11_needSound_6 lX11_27 e1 rfl ?_
  refine s_get (c := h 1 4) dX11_needSound_9 lX11_135 c1 (by decide) ?_
  exact s_icmp_lt (tgt := 23) dX11_needSound_12 (by decide) r1 r2 kt kf
theorem bX11_needSound_15 {fr M1 M2 b1 b2 : Nat} {Q : RS → Nat → AH → Prop} {h : AH} {x0 x1 : AV}   (f8 : 8 ≤ fr := by omega) (g1 : 1 ≤ b1 := by omega) (g2 : 6 ≤ b2 := by omega) (hq : Q (.inr "java/util/NoSuchElementException") 137 h) : Wp mX11_needSound (kR fr M1 M2) Q (b1, b2) 15 [x0, x1] [] 137 h := by
  refine s_fgt (fgt_n _ (fgt_n _ fgt_0)) ?_
  exact s_throw (Or.inr ⟨rfl, rfl, rfl⟩) rfl dX11_needSound_15 dX11_needSound_18 dX11_needSound_19 dX11_needSound_22 rfl rfl rfl f8 (Nat.le_of_ble_eq_true rfl) g1 g2 wd860 wd24 hq
theorem bX11_needSound_23 {fr M1 M2 b1 b2 : Nat} {Q : RS → Nat → AH → Prop} {h : AH} {x0 x1 : AV}   (hq : Q (.inl none) 137 h) : Wp mX11_needSound (kR fr M1 M2) Q (b1, b2) 23 [x0, x1] [] 137 h := by
  refine s_fgt (fgt_n _ (fgt_n _ fgt_0)) ?_
  exact s_return dX11_needSound_23 rfl hq (fun z => by cases z)
theorem dX11_needWall_0 : decode mX11_needWall.cd 0 = .ok (.iload_n 1, 1) := by decide +kernel
theorem dX11_needWall_1 : decode mX11_needWall.cd 1 = .ok (.ifCond .lt 14, 3) := by decide +kernel
theorem dX11_needWall_4 : decode mX11_needWall.cd 4 = .ok (.iload_n 1, 1) := by decide +kernel
theorem dX11_needWall_5 : decode mX11_needWall.cd 5 = .ok (.aload_n 0, 1) := by decide +kernel
theorem dX11_needWall_6 : decode mX11_needWall.cd 6 = .ok (.getfield 27, 3) := by decide +kernel
theorem dX11_needWall_9 : decode mX11_needWall.cd 9 = .ok (.getfield 138, 3) := by decide +kernel
theorem dX11_needWall_12 : decode mX11_needWall.cd 12 = .ok (.if_icmp .lt 11, 3) := by decide +kernel
theorem dX11_needWall_15 : decode mX11_needWall.cd 15 = .ok (.new 156, 3) := by decide +kernel
theorem dX11_needWall_18 : decode mX11_needWall.cd 18 = .ok (.dup, 1) := by decide +kernel
theorem dX11_needWall_19 : decode mX11_needWall.cd 19 = .ok (.invokespecial 158, 3) := by decide +kernel
theorem dX11_needWall_22 : decode mX11_needWall.cd 22 = .ok (.athrow, 1) := by decide +kernel
theorem dX11_needWall_23 : decode mX11_needWall.cd 23 = .ok (.return_, 1) := by decide +kernel
theorem bX11_needWall_0 {fr M1 M2 b1 b2 : Nat} {Q : RS → Nat → AH → Prop} {h : AH} {l1 : Int}  (r1 : -2147483648 ≤ l1 ∧ l1 < 2147483648 := by omega) (kt : l1 < 0 → Wp mX11_needWall (kR fr M1 M2) Q (b1, b2) 15 [zR 1, zI l1] [] 137 h) (kf : 0 ≤ l1 → Wp mX11_needWall (kR fr M1 M2) Q (b1, b2) 4 [zR 1, zI l1] [] 137 h) : Wp mX11_needWall (kR fr M1 M2) Q (b1, b2) 0 [zR 1, zI l1] [] 137 h := by
  refine s_iload_n (x := l1) dX11_needWall_0 rfl ?_
  exact s_if_lt (tgt := 15) dX11_needWall_1 (by decide) r1 kt kf
theorem bX11_needWall_4 {fr M1 M2 b1 b2 : Nat} {Q : RS → Nat → AH → Prop} {h : AH} {l1 : Int} (c1 : cel 137 (h 1 4) (2, 21) := by first | assumption | omega) (r1 : -2147483648 ≤ l1 ∧ l1 < 2147483648 := by omega) (r2 : -2147483648 ≤ h (h 1 4) 1 ∧ h (h 1 4) 1 < 2147483648 := by omega) (kt : l1 < h (h 1 4) 1 → Wp mX11_needWall (kR fr M1 M2) Q (b1, b2) 23 [zR 1, zI l1] [] 137 h) (kf : h (h 1 4) 1 ≤ l1 → Wp mX11_needWall (kR fr M1 M2) Q (b1, b2) 15 [zR 1, zI l1] [] 137 h) : Wp mX11_needWall (kR fr M1 M2) Q (b1, b2) 4 [zR 1, zI l1] [] 137 h := by
  refine s_iload_n (x := l1) dX11_needWall_4 rfl ?_
  refine s_aload_n (x := 1) dX11_needWall_5 rfl ?_
  refine s_getR (c := 1) dX11_needWall_6 lX11_27 e1 rfl ?_
  refine s_get (c := h 1 4) dX11_needWall_9 lX11_138 c1 (by decide) ?_
  exact s_icmp_lt (tgt := 23) dX11_needWall_12 (by decide) r1 r2 kt kf
theorem bX11_needWall_15 {fr M1 M2 b1 b2 : Nat} {Q : RS → Nat → AH → Prop} {h : AH} {x0 x1 : AV}   (f8 : 8 ≤ fr := by omega) (g1 : 1 ≤ b1 := by omega) (g2 : 6 ≤ b2 := by omega) (hq : Q (.inr "java/util/NoSuchElementException") 137 h) : Wp mX11_needWall (kR fr M1 M2) Q (b1, b2) 15 [x0, x1] [] 137 h := by
  refine s_fgt (fgt_n _ (fgt_n _ fgt_0)) ?_
  exact s_throw (Or.inr ⟨rfl, rfl, rfl⟩) rfl dX11_needWall_15 dX11_needWall_18 dX11_needWall_19 dX11_needWall_22 rfl rfl rfl f8 (Nat.le_of_ble_eq_true rfl) g1 g2 wd860 wd24 hq
theorem bX11_needWall_23 {fr M1 M2 b1 b2 : Nat} {Q : RS → Nat → AH → Prop} {h : AH} {x0 x1 : AV}   (hq : Q (.inl none) 137 h) : Wp mX11_needWall (kR fr M1 M2) Q (b1, b2) 23 [x0, x1] [] 137 h := by
  refine s_fgt (fgt_n _ (fgt_n _ fgt_0)) ?_
  exact s_return dX11_needWall_23 rfl hq (fun z => by cases z)
theorem dX11_needEar_0 : decode mX11_needEar.cd 0 = .ok (.iload_n 1, 1) := by decide +kernel
theorem dX11_needEar_1 : decode mX11_needEar.cd 1 = .ok (.ifCond .lt 8, 3) := by decide +kernel
theorem dX11_needEar_4 : decode mX11_needEar.cd 4 = .ok (.iload_n 1, 1) := by decide +kernel
theorem dX11_needEar_5 : decode mX11_needEar.cd 5 = .ok (.iconst 3, 1) := by decide +kernel
theorem dX11_needEar_6 : decode mX11_needEar.cd 6 = .ok (.if_icmp .lt 11, 3) := by decide +kernel
theorem dX11_needEar_9 : decode mX11_needEar.cd 9 = .ok (.new 156, 3) := by decide +kernel
theorem dX11_needEar_12 : decode mX11_needEar.cd 12 = .ok (.dup, 1) := by decide +kernel
theorem dX11_needEar_13 : decode mX11_needEar.cd 13 = .ok (.invokespecial 158, 3) := by decide +kernel
theorem dX11_needEar_16 : decode mX11_needEar.cd 16 = .ok (.athrow, 1) := by decide +kernel
theorem dX11_needEar_17 : decode mX11_needEar.cd 17 = .ok (.return_, 1) := by decide +kernel
theorem bX11_needEar_0 {fr M1 M2 b1 b2 : Nat} {Q : RS → Nat → AH → Prop} {h : AH} {l1 : Int} {x0 : AV}  (r1 : -2147483648 ≤ l1 ∧ l1 < 2147483648 := by omega) (kt : l1 < 0 → Wp mX11_needEar (kR fr M1 M2) Q (b1, b2) 9 [none, zI l1] [] 137 h) (kf : 0 ≤ l1 → Wp mX11_needEar (kR fr M1 M2) Q (b1, b2) 4 [none, zI l1] [] 137 h) : Wp mX11_needEar (kR fr M1 M2) Q (b1, b2) 0 [x0, zI l1] [] 137 h := by
  refine s_fgt (fgt_n _ (fgt_c fgt_0)) ?_
  refine s_iload_n (x := l1) dX11_needEar_0 rfl ?_
  exact s_if_lt (tgt := 9) dX11_needEar_1 (by decide) r1 kt kf
theorem bX11_needEar_4 {fr M1 M2 b1 b2 : Nat} {Q : RS → Nat → AH → Prop} {h : AH} {l1 : Int} {x0 : AV}  (r1 : -2147483648 ≤ l1 ∧ l1 < 2147483648 := by omega) (kt : l1 < 3 → Wp mX11_needEar (kR fr M1 M2) Q (b1, b2) 17 [none, zI l1] [] 137 h) (kf : 3 ≤ l1 → Wp mX11_needEar (kR fr M1 M2) Q (b1, b2) 9 [none, zI l1] [] 137 h) : Wp mX11_needEar (kR fr M1 M2) Q (b1, b2) 4 [x0, zI l1] [] 137 h := by
  refine s_fgt (fgt_n _ (fgt_c fgt_0)) ?_
  refine s_iload_n (x := l1) dX11_needEar_4 rfl ?_
  refine s_iconst dX11_needEar_5 ?_
  exact s_icmp_lt (tgt := 17) dX11_needEar_6 (by decide) r1 ⟨by decide, by decide⟩ kt kf
theorem bX11_needEar_9 {fr M1 M2 b1 b2 : Nat} {Q : RS → Nat → AH → Prop} {h : AH} {x0 x1 : AV}   (f8 : 8 ≤ fr := by omega) (g1 : 1 ≤ b1 := by omega) (g2 : 6 ≤ b2 := by omega) (hq : Q (.inr "java/util/NoSuchElementException") 137 h) : Wp mX11_needEar (kR fr M1 M2) Q (b1, b2) 9 [x0, x1] [] 137 h := by
  refine s_fgt (fgt_n _ (fgt_n _ fgt_0)) ?_
  exact s_throw (Or.inr ⟨rfl, rfl, rfl⟩) rfl dX11_needEar_9 dX11_needEar_12 dX11_needEar_13 dX11_needEar_16 rfl rfl rfl f8 (Nat.le_of_ble_eq_true rfl) g1 g2 wd860 wd24 hq
theorem bX11_needEar_17 {fr M1 M2 b1 b2 : Nat} {Q : RS → Nat → AH → Prop} {h : AH} {x0 x1 : AV}   (hq : Q (.inl none) 137 h) : Wp mX11_needEar (kR fr M1 M2) Q (b1, b2) 17 [x0, x1] [] 137 h := by
  refine s_fgt (fgt_n _ (fgt_n _ fgt_0)) ?_
  exact s_return dX11_needEar_17 rfl hq (fun z => by cases z)
theorem dX11_needHour_0 : decode mX11_needHour.cd 0 = .ok (.iload_n 1, 1) := by decide +kernel
theorem dX11_needHour_1 : decode mX11_needHour.cd 1 = .ok (.ifCond .lt 9, 3) := by decide +kernel
theorem dX11_needHour_4 : decode mX11_needHour.cd 4 = .ok (.iload_n 1, 1) := by decide +kernel
theorem dX11_needHour_5 : decode mX11_needHour.cd 5 = .ok (.bipush 24, 2) := by decide +kernel
theorem dX11_needHour_7 : decode mX11_needHour.cd 7 = .ok (.if_icmp .lt 11, 3) := by decide +kernel
theorem dX11_needHour_10 : decode mX11_needHour.cd 10 = .ok (.new 156, 3) := by decide +kernel
theorem dX11_needHour_13 : decode mX11_needHour.cd 13 = .ok (.dup, 1) := by decide +kernel
theorem dX11_needHour_14 : decode mX11_needHour.cd 14 = .ok (.invokespecial 158, 3) := by decide +kernel
theorem dX11_needHour_17 : decode mX11_needHour.cd 17 = .ok (.athrow, 1) := by decide +kernel
theorem dX11_needHour_18 : decode mX11_needHour.cd 18 = .ok (.return_, 1) := by decide +kernel
theorem bX11_needHour_0 {fr M1 M2 b1 b2 : Nat} {Q : RS → Nat → AH → Prop} {h : AH} {l1 : Int} {x0 : AV}  (r1 : -2147483648 ≤ l1 ∧ l1 < 2147483648 := by omega) (kt : l1 < 0 → Wp mX11_needHour (kR fr M1 M2) Q (b1, b2) 10 [none, zI l1] [] 137 h) (kf : 0 ≤ l1 → Wp mX11_needHour (kR fr M1 M2) Q (b1, b2) 4 [none, zI l1] [] 137 h) : Wp mX11_needHour (kR fr M1 M2) Q (b1, b2) 0 [x0, zI l1] [] 137 h := by
  refine s_fgt (fgt_n _ (fgt_c fgt_0)) ?_
  refine s_iload_n (x := l1) dX11_needHour_0 rfl ?_
  exact s_if_lt (tgt := 10) dX11_needHour_1 (by decide) r1 kt kf
theorem bX11_needHour_4 {fr M1 M2 b1 b2 : Nat} {Q : RS → Nat → AH → Prop} {h : AH} {l1 : Int} {x0 : AV}  (r1 : -2147483648 ≤ l1 ∧ l1 < 2147483648 := by omega) (kt : l1 < 24 → Wp mX11_needHour (kR fr M1 M2) Q (b1, b2) 18 [none, zI l1] [] 137 h) (kf : 24 ≤ l1 → Wp mX11_needHour (kR fr M1 M2) Q (b1, b2) 10 [none, zI l1] [] 137 h) : Wp mX11_needHour (kR fr M1 M2) Q (b1, b2) 4 [x0, zI l1] [] 137 h := by
  refine s_fgt (fgt_n _ (fgt_c fgt_0)) ?_
  refine s_iload_n (x := l1) dX11_needHour_4 rfl ?_
  refine s_bipush dX11_needHour_5 (by decide) ?_
  exact s_icmp_lt (tgt := 18) dX11_needHour_7 (by decide) r1 ⟨by decide, by decide⟩ kt kf
theorem bX11_needHour_10 {fr M1 M2 b1 b2 : Nat} {Q : RS → Nat → AH → Prop} {h : AH} {x0 x1 : AV}   (f8 : 8 ≤ fr := by omega) (g1 : 1 ≤ b1 := by omega) (g2 : 6 ≤ b2 := by omega) (hq : Q (.inr "java/util/NoSuchElementException") 137 h) : Wp mX11_needHour (kR fr M1 M2) Q (b1, b2) 10 [x0, x1] [] 137 h := by
  refine s_fgt (fgt_n _ (fgt_n _ fgt_0)) ?_
  exact s_throw (Or.inr ⟨rfl, rfl, rfl⟩) rfl dX11_needHour_10 dX11_needHour_13 dX11_needHour_14 dX11_needHour_17 rfl rfl rfl f8 (Nat.le_of_ble_eq_true rfl) g1 g2 wd860 wd24 hq
theorem bX11_needHour_18 {fr M1 M2 b1 b2 : Nat} {Q : RS → Nat → AH → Prop} {h : AH} {x0 x1 : AV}   (hq : Q (.inl none) 137 h) : Wp mX11_needHour (kR fr M1 M2) Q (b1, b2) 18 [x0, x1] [] 137 h := by
  refine s_fgt (fgt_n _ (fgt_n _ fgt_0)) ?_
  exact s_return dX11_needHour_18 rfl hq (fun z => by cases z)
theorem dX11_needMoment_0 : decode mX11_needMoment.cd 0 = .ok (.aload_n 0, 1) := by decide +kernel
theorem dX11_needMoment_1 : decode mX11_needMoment.cd 1 = .ok (.iload_n 1, 1) := by decide +kernel
theorem dX11_needMoment_2 : decode mX11_needMoment.cd 2 = .ok (.invokevirtual 287, 3) := by decide +kernel
theorem dX11_needMoment_5 : decode mX11_needMoment.cd 5 = .ok (.aload_n 0, 1) := by decide +kernel
theorem dX11_needMoment_6 : decode mX11_needMoment.cd 6 = .ok (.iload_n 2, 1) := by decide +kernel
theorem dX11_needMoment_7 : decode mX11_needMoment.cd 7 = .ok (.invokevirtual 230, 3) := by decide +kernel
theorem dX11_needMoment_10 : decode mX11_needMoment.cd 10 = .ok (.iload_n 3, 1) := by decide +kernel
theorem dX11_needMoment_11 : decode mX11_needMoment.cd 11 = .ok (.ifCond .lt 10, 3) := by decide +kernel
theorem dX11_needMoment_14 : decode mX11_needMoment.cd 14 = .ok (.iload_n 3, 1) := by decide +kernel
theorem dX11_needMoment_15 : decode mX11_needMoment.cd 15 = .ok (.sipush 400, 3) := by decide +kernel
theorem dX11_needMoment_18 : decode mX11_needMoment.cd 18 = .ok (.if_icmp .lt 11, 3) := by decide +kernel
theorem dX11_needMoment_21 : decode mX11_needMoment.cd 21 = .ok (.new 156, 3) := by decide +kernel
theorem dX11_needMoment_24 : decode mX11_needMoment.cd 24 = .ok (.dup, 1) := by decide +kernel
theorem dX11_needMoment_25 : decode mX11_needMoment.cd 25 = .ok (.invokespecial 158, 3) := by decide +kernel
theorem dX11_needMoment_28 : decode mX11_needMoment.cd 28 = .ok (.athrow, 1) := by decide +kernel
theorem dX11_needMoment_29 : decode mX11_needMoment.cd 29 = .ok (.return_, 1) := by decide +kernel
theorem bX11_needMoment_0 {fr M1 M2 b1 b2 : Nat} {Q : RS → Nat → AH → Prop} {h : AH} {l1 l2 l3 : Int} {R : AH → Prop} {X : String → AH → Prop}   (hS : Sp mX11_needEar true (fr - 1) 1 6 [zR 1, zI l1] 137 h (rVx R X)) (hf : 1 ≤ fr := by omega) (g1 : 1 ≤ b1 := by omega) (g2 : 6 ≤ b2 := by omega) (kk : ∀ h' : AH, R h' → Wp mX11_needMoment (kR fr M1 M2) Q (b1 - 1, b2 - 6) 5 [zR 1, zI l1, zI l2, zI l3] [] 137 h') (kx : ∀ (E : String) (h' : AH), X E h' → Q (.inr E) 137 h') : Wp mX11_needMoment (kR fr M1 M2) Q (b1, b2) 0 [zR 1, zI l1, zI l2, zI l3] [] 137 h := by
  refine s_aload_n (x := 1) dX11_needMoment_0 rfl ?_
  refine s_iload_n (x := l1) dX11_needMoment_1 rfl ?_
  exact s_callV (as := [zI l1]) (st := []) (o := 1) dX11_needMoment_2 kX11_287 rfl ⟨11, 18, TX11, e1, rfl, by decide⟩ rfl rfl (Nat.le_of_ble_eq_true rfl) hS (show fr - 1 + 1 ≤ fr by omega) g1 g2 (fun v n' h' hP _ => by
    obtain ⟨rfl, ⟨e, hR⟩ | ⟨E, e, _⟩⟩ := hP
    · cases e; exact kk h' hR
    · cases e) (fun E n' h' _ hP => by
    obtain ⟨rfl, ⟨e, _⟩ | ⟨E', e, hX⟩⟩ := hP
    · cases e
    · cases e; exact x_out rfl rfl rfl (kx E h' hX))
theorem bX11_needMoment_5 {fr M1 M2 b1 b2 : Nat} {Q : RS → Nat → AH → Prop} {h : AH} {l2 l3 : Int} {x1 : AV} {R : AH → Prop} {X : String → AH → Prop}   (hS : Sp mX11_needHour true (fr - 1) 1 6 [zR 1, zI l2] 137 h (rVx R X)) (hf : 1 ≤ fr := by omega) (g1 : 1 ≤ b1 := by omega) (g2 : 6 ≤ b2 := by omega) (kk : ∀ h' : AH, R h' → Wp mX11_needMoment (kR fr M1 M2) Q (b1 - 1, b2 - 6) 10 [zR 1, none, zI l2, zI l3] [] 137 h') (kx : ∀ (E : String) (h' : AH), X E h' → Q (.inr E) 137 h') : Wp mX11_needMoment (kR fr M1 M2) Q (b1, b2) 5 [zR 1, x1, zI l2, zI l3] [] 137 h := by
  refine s_fgt (fgt_c (fgt_n _ (fgt_c (fgt_c fgt_0)))) ?_
  refine s_aload_n (x := 1) dX11_needMoment_5 rfl ?_
  refine s_iload_n (x := l2) dX11_needMoment_6 rfl ?_
  exact s_callV (as := [zI l2]) (st := []) (o := 1) dX11_needMoment_7 kX11_230 rfl ⟨11, 18, TX11, e1, rfl, by decide⟩ rfl rfl (Nat.le_of_ble_eq_true rfl) hS (show fr - 1 + 1 ≤ fr by omega) g1 g2 (fun v n' h' hP _ => by
    obtain ⟨rfl, ⟨e, hR⟩ | ⟨E, e, _⟩⟩ := hP
    · cases e; exact kk h' hR
    · cases e) (fun E n' h' _ hP => by
    obtain ⟨rfl, ⟨e, _⟩ | ⟨E', e, hX⟩⟩ := hP
    · cases e
    · cases e; exact x_out rfl rfl rfl (kx E h' hX))
theorem bX11_needMoment_10 {fr M1 M2 b1 b2 : Nat} {Q : RS → Nat → AH → Prop} {h : AH} {l3 : Int} {x0 x1 x2 : AV}  (r1 : -2147483648 ≤ l3 ∧ l3 < 2147483648 := by omega) (kt : l3 < 0 → Wp mX11_needMoment (kR fr M1 M2) Q (b1, b2) 21 [none, none, none, zI l3] [] 137 h) (kf : 0 ≤ l3 → Wp mX11_needMoment (kR fr M1 M2) Q (b1, b2) 14 [none, none, none, zI l3] [] 137 h) : Wp mX11_needMoment (kR fr M1 M2) Q (b1, b2) 10 [x0, x1, x2, zI l3] [] 137 h := by
  refine s_fgt (fgt_n _ (fgt_n _ (fgt_n _ (fgt_c fgt_0)))) ?_
  refine s_iload_n (x := l3) dX11_needMoment_10 rfl ?_
  exact s_if_lt (tgt := 21) dX11_needMoment_11 (by decide) r1 kt kf
theorem bX11_needMoment_14 {fr M1 M2 b1 b2 : Nat} {Q : RS → Nat → AH → Prop} {h : AH} {l3 : Int} {x0 x1 x2 : AV}  (r1 : -2147483648 ≤ l3 ∧ l3 < 2147483648 := by omega) (kt : l3 < 400 → Wp mX11_needMoment (kR fr M1 M2) Q (b1, b2) 29 [none, none, none, zI l3] [] 137 h) (kf : 400 ≤ l3 → Wp mX11_needMoment (kR fr M1 M2) Q (b1, b2) 21 [none, none, none, zI l3] [] 137 h) : Wp mX11_needMoment (kR fr M1 M2) Q (b1, b2) 14 [x0, x1, x2, zI l3] [] 137 h := by
  refine s_fgt (fgt_n _ (fgt_n _ (fgt_n _ (fgt_c fgt_0)))) ?_
  refine s_iload_n (x := l3) dX11_needMoment_14 rfl ?_
  refine s_sipush dX11_needMoment_15 (by decide) ?_
  exact s_icmp_lt (tgt := 29) dX11_needMoment_18 (by decide) r1 ⟨by decide, by decide⟩ kt kf
theorem bX11_needMoment_21 {fr M1 M2 b1 b2 : Nat} {Q : RS → Nat → AH → Prop} {h : AH} {x0 x1 x2 x3 : AV}   (f8 : 8 ≤ fr := by omega) (g1 : 1 ≤ b1 := by omega) (g2 : 6 ≤ b2 := by omega) (hq : Q (.inr "java/util/NoSuchElementException") 137 h) : Wp mX11_needMoment (kR fr M1 M2) Q (b1, b2) 21 [x0, x1, x2, x3] [] 137 h := by
  refine s_fgt (fgt_n _ (fgt_n _ (fgt_n _ (fgt_n _ fgt_0)))) ?_
  exact s_throw (Or.inr ⟨rfl, rfl, rfl⟩) rfl dX11_needMoment_21 dX11_needMoment_24 dX11_needMoment_25 dX11_needMoment_28 rfl rfl rfl f8 (Nat.le_of_ble_eq_true rfl) g1 g2 wd860 wd24 hq
theorem bX11_needMoment_29 {fr M1 M2 b1 b2 : Nat} {Q : RS → Nat → AH → Prop} {h : AH} {x0 x1 x2 x3 : AV}   (hq : Q (.inl none) 137 h) : Wp mX11_needMoment (kR fr M1 M2) Q (b1, b2) 29 [x0, x1, x2, x3] [] 137 h := by
  refine s_fgt (fgt_n _ (fgt_n _ (fgt_n _ (fgt_n _ fgt_0)))) ?_
  exact s_return dX11_needMoment_29 rfl hq (fun z => by cases z)
theorem dX11_lowestBit_0 : decode mX11_lowestBit.cd 0 = .ok (.iload_n 0, 1) := by decide +kernel
theorem dX11_lowestBit_1 : decode mX11_lowestBit.cd 1 = .ok (.iload_n 0, 1) := by decide +kernel
theorem dX11_lowestBit_2 : decode mX11_lowestBit.cd 2 = .ok (.ineg, 1) := by decide +kernel
theorem dX11_lowestBit_3 : decode mX11_lowestBit.cd 3 = .ok (.iand, 1) := by decide +kernel
theorem dX11_lowestBit_4 : decode mX11_lowestBit.cd 4 = .ok (.iconst 1, 1) := by decide +kernel
theorem dX11_lowestBit_5 : decode mX11_lowestBit.cd 5 = .ok (.isub, 1) := by decide +kernel
theorem dX11_lowestBit_6 : decode mX11_lowestBit.cd 6 = .ok (.invokestatic 322, 3) := by decide +kernel
theorem dX11_lowestBit_9 : decode mX11_lowestBit.cd 9 = .ok (.ireturn, 1) := by decide +kernel
theorem bX11_lowestBit_0 {fr M1 M2 b1 b2 : Nat} {Q : RS → Nat → AH → Prop} {h : AH} {l0 : Int} {R : Int → AH → Prop}   (hS : Sp mJ6_bitCount_0f7a4 true (fr - 1) 0 0 [zI ((bAnd l0 (0 - l0)) - 1)] 137 h (rI R)) (hf : 1 ≤ fr := by omega) (kk : ∀ (x : Int) (h' : AH), R x h' → Wp mX11_lowestBit (kR fr M1 M2) Q (b1, b2) 9 [zI l0] [zI x] 137 h') : Wp mX11_lowestBit (kR fr M1 M2) Q (b1, b2) 0 [zI l0] [] 137 h := by
  refine s_iload_n (x := l0) dX11_lowestBit_0 rfl ?_
  refine s_iload_n (x := l0) dX11_lowestBit_1 rfl ?_
  refine s_ineg dX11_lowestBit_2 ?_
  refine s_iand dX11_lowestBit_3 ?_
  refine s_iconst dX11_lowestBit_4 ?_
  refine s_isub dX11_lowestBit_5 ?_
  exact s_callS (as := [zI ((bAnd l0 (0 - l0)) - 1)]) (st := []) dX11_lowestBit_6 kX11_322 rfl rfl (Nat.le_of_ble_eq_true rfl) hS (show fr - 1 + 1 ≤ fr by omega) (Nat.zero_le _) (Nat.zero_le _) (fun v n' h' hP _ => by obtain ⟨x, e, rfl, hR⟩ := hP; cases e; exact kk x h' hR) (fun E n' h' _ z => (rI_nt _ _ _ z).elim)
theorem bX11_lowestBit_9 {fr M1 M2 b1 b2 : Nat} {Q : RS → Nat → AH → Prop} {h : AH} {s0 : Int} {x0 : AV}   (hq : Q (.inl (some (zI s0))) 137 h) : Wp mX11_lowestBit (kR fr M1 M2) Q (b1, b2) 9 [x0] [zI s0] 137 h := by
  refine s_fgt (fgt_n _ fgt_0) ?_
  exact s_ireturn dX11_lowestBit_9 ⟨.int, rfl, rfl⟩ hq (fun z => by cases z)
