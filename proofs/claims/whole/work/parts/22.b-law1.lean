abbrev kL (L : Nat) (xs : Nat → Int) : KD := (true, 1000, 600128, 7301097, L, xs)
theorem dL_gorge_0 : decode mL_gorge.cd 0 = .ok (.aload_n 2, 1) := by decide +kernel
theorem dL_gorge_1 : decode mL_gorge.cd 1 = .ok (.iconst 0, 1) := by decide +kernel
theorem dL_gorge_2 : decode mL_gorge.cd 2 = .ok (.aload_n 0, 1) := by decide +kernel
theorem dL_gorge_3 : decode mL_gorge.cd 3 = .ok (.iload_n 1, 1) := by decide +kernel
theorem dL_gorge_4 : decode mL_gorge.cd 4 = .ok (.invokevirtual 7, 3) := by decide +kernel
theorem dL_gorge_7 : decode mL_gorge.cd 7 = .ok (.i2l, 1) := by decide +kernel
theorem dL_gorge_8 : decode mL_gorge.cd 8 = .ok (.lastore, 1) := by decide +kernel
theorem dL_gorge_9 : decode mL_gorge.cd 9 = .ok (.goto 6, 3) := by decide +kernel
theorem dL_gorge_12 : decode mL_gorge.cd 12 = .ok (.astore_n 3, 1) := by decide +kernel
theorem dL_gorge_13 : decode mL_gorge.cd 13 = .ok (.iconst 1, 1) := by decide +kernel
theorem dL_gorge_14 : decode mL_gorge.cd 14 = .ok (.ireturn, 1) := by decide +kernel
theorem dL_gorge_15 : decode mL_gorge.cd 15 = .ok (.iconst 0, 1) := by decide +kernel
theorem dL_gorge_16 : decode mL_gorge.cd 16 = .ok (.ireturn, 1) := by decide +kernel
theorem bL_gorge_0 {fr M1 M2 b1 b2 : Nat} {Q : RS → Nat → AH → Prop} {h : AH} {l1 : Int} {x3 : AV} {R : Int → AH → Prop} {X : String → AH → Prop}   (hS : Sp mX11_gorge true (fr - 1) 8 48 [zR 1, zI l1] 137 h (rIx R X)) (hf : 1 ≤ fr := by omega) (g1 : 8 ≤ b1 := by omega) (g2 : 48 ≤ b2 := by omega) (kk : ∀ (x : Int) (h' : AH), R x h' → Wp mL_gorge (kR fr M1 M2) Q (b1 - 8, b2 - 48) 7 [zR 1, zI l1, zR 137, none] [zI x, zI 0, zR 137] 137 h') (kx : ∀ (E : String) (h' : AH), X E h' → Wx mL_gorge (kR fr M1 M2) Q (b1 - 8, b2 - 48) 4 [zR 1, zI l1, zR 137, none] 137 h' E) : Wp mL_gorge (kR fr M1 M2) Q (b1, b2) 0 [zR 1, zI l1, zR 137, x3] [] 137 h := by
  refine s_fgt (fgt_c (fgt_c (fgt_c (fgt_n _ fgt_0)))) ?_
  refine s_aload_n (x := 137) dL_gorge_0 rfl ?_
  refine s_iconst dL_gorge_1 ?_
  refine s_aload_n (x := 1) dL_gorge_2 rfl ?_
  refine s_iload_n (x := l1) dL_gorge_3 rfl ?_
  exact s_callV (as := [zI l1]) (st := [zI 0, zR 137]) (o := 1) dL_gorge_4 kL_7 rfl ⟨11, 18, TX11, e1, rfl, by decide⟩ rfl rfl (Nat.le_of_ble_eq_true rfl) hS (show fr - 1 + 1 ≤ fr by omega) g1 g2 (fun v n' h' hP _ => by
    obtain ⟨rfl, ⟨x, e, hR⟩ | ⟨E, e, _⟩⟩ := hP
    · cases e; exact kk x h' hR
    · cases e) (fun E n' h' _ hP => by
    obtain ⟨rfl, ⟨x, e, _⟩ | ⟨E', e, hX⟩⟩ := hP
    · cases e
    · cases e; exact kx E h' hX)
theorem bL_gorge_7 {fr M1 M2 b1 b2 : Nat} {Q : RS → Nat → AH → Prop} {h : AH} {s1 s0 : Int} {x0 x1 x2 x3 : AV}  (r1 : 0 ≤ s1 ∧ s1 < 1 := by omega) (kk : Wp mL_gorge (kR fr M1 M2) Q (b1, b2) 15 [none, none, none, none] [] 137 (up h 137 s1 (i2l s0))) : Wp mL_gorge (kR fr M1 M2) Q (b1, b2) 7 [x0, x1, x2, x3] [zI s0, zI s1, zR 137] 137 h := by
  refine s_fgt (fgt_n _ (fgt_n _ (fgt_n _ (fgt_n _ fgt_0)))) ?_
  refine s_i2l dL_gorge_7 ?_
  refine s_last (c := 137) (i := s1) dL_gorge_8 e137 r1.1 r1.2 ?_
  exact s_goto (tgt := 15) dL_gorge_9 (by decide) kk
theorem bL_gorge_13 {fr M1 M2 b1 b2 : Nat} {Q : RS → Nat → AH → Prop} {h : AH} {x0 x1 x2 x3 : AV}   (hq : Q (.inl (some (zI 1))) 137 h) : Wp mL_gorge (kR fr M1 M2) Q (b1, b2) 13 [x0, x1, x2, x3] [] 137 h := by
  refine s_fgt (fgt_n _ (fgt_n _ (fgt_n _ (fgt_n _ fgt_0)))) ?_
  refine s_iconst dL_gorge_13 ?_
  exact s_ireturn dL_gorge_14 ⟨.int, rfl, rfl⟩ hq (fun z => by cases z)
theorem bL_gorge_15 {fr M1 M2 b1 b2 : Nat} {Q : RS → Nat → AH → Prop} {h : AH} {x0 x1 x2 x3 : AV}   (hq : Q (.inl (some (zI 0))) 137 h) : Wp mL_gorge (kR fr M1 M2) Q (b1, b2) 15 [x0, x1, x2, x3] [] 137 h := by
  refine s_fgt (fgt_n _ (fgt_n _ (fgt_n _ (fgt_n _ fgt_0)))) ?_
  refine s_iconst dL_gorge_15 ?_
  exact s_ireturn dL_gorge_16 ⟨.int, rfl, rfl⟩ hq (fun z => by cases z)
theorem dL_count_0 : decode mL_count.cd 0 = .ok (.aload_n 2, 1) := by decide +kernel
theorem dL_count_1 : decode mL_count.cd 1 = .ok (.iconst 0, 1) := by decide +kernel
theorem dL_count_2 : decode mL_count.cd 2 = .ok (.aload_n 0, 1) := by decide +kernel
theorem dL_count_3 : decode mL_count.cd 3 = .ok (.iload_n 1, 1) := by decide +kernel
theorem dL_count_4 : decode mL_count.cd 4 = .ok (.invokevirtual 15, 3) := by decide +kernel
theorem dL_count_7 : decode mL_count.cd 7 = .ok (.i2l, 1) := by decide +kernel
theorem dL_count_8 : decode mL_count.cd 8 = .ok (.lastore, 1) := by decide +kernel
theorem dL_count_9 : decode mL_count.cd 9 = .ok (.goto 6, 3) := by decide +kernel
theorem dL_count_12 : decode mL_count.cd 12 = .ok (.astore_n 3, 1) := by decide +kernel
theorem dL_count_13 : decode mL_count.cd 13 = .ok (.iconst 1, 1) := by decide +kernel
theorem dL_count_14 : decode mL_count.cd 14 = .ok (.ireturn, 1) := by decide +kernel
theorem dL_count_15 : decode mL_count.cd 15 = .ok (.iconst 0, 1) := by decide +kernel
theorem dL_count_16 : decode mL_count.cd 16 = .ok (.ireturn, 1) := by decide +kernel
theorem bL_count_0 {fr M1 M2 b1 b2 : Nat} {Q : RS → Nat → AH → Prop} {h : AH} {l1 : Int} {x3 : AV} {R : Int → AH → Prop} {X : String → AH → Prop}   (hS : Sp mX11_count true (fr - 1) 8 48 [zR 1, zI l1] 137 h (rIx R X)) (hf : 1 ≤ fr := by omega) (g1 : 8 ≤ b1 := by omega) (g2 : 48 ≤ b2 := by omega) (kk : ∀ (x : Int) (h' : AH), R x h' → Wp mL_count (kR fr M1 M2) Q (b1 - 8, b2 - 48) 7 [zR 1, zI l1, zR 137, none] [zI x, zI 0, zR 137] 137 h') (kx : ∀ (E : String) (h' : AH), X E h' → Wx mL_count (kR fr M1 M2) Q (b1 - 8, b2 - 48) 4 [zR 1, zI l1, zR 137, none] 137 h' E) : Wp mL_count (kR fr M1 M2) Q (b1, b2) 0 [zR 1, zI l1, zR 137, x3] [] 137 h := by
  refine s_fgt (fgt_c (fgt_c (fgt_c (fgt_n _ fgt_0)))) ?_
  refine s_aload_n (x := 137) dL_count_0 rfl ?_
  refine s_iconst dL_count_1 ?_
  refine s_aload_n (x := 1) dL_count_2 rfl ?_
  refine s_iload_n (x := l1) dL_count_3 rfl ?_
  exact s_callV (as := [zI l1]) (st := [zI 0, zR 137]) (o := 1) dL_count_4 kL_15 rfl ⟨11, 18, TX11, e1, rfl, by decide⟩ rfl rfl (Nat.le_of_ble_eq_true rfl) hS (show fr - 1 + 1 ≤ fr by omega) g1 g2 (fun v n' h' hP _ => by
    obtain ⟨rfl, ⟨x, e, hR⟩ | ⟨E, e, _⟩⟩ := hP
    · cases e; exact kk x h' hR
    · cases e) (fun E n' h' _ hP => by
    obtain ⟨rfl, ⟨x, e, _⟩ | ⟨E', e, hX⟩⟩ := hP
    · cases e
    · cases e; exact kx E h' hX)
theorem bL_count_7 {fr M1 M2 b1 b2 : Nat} {Q : RS → Nat → AH → Prop} {h : AH} {s1 s0 : Int} {x0 x1 x2 x3 : AV}  (r1 : 0 ≤ s1 ∧ s1 < 1 := by omega) (kk : Wp mL_count (kR fr M1 M2) Q (b1, b2) 15 [none, none, none, none] [] 137 (up h 137 s1 (i2l s0))) : Wp mL_count (kR fr M1 M2) Q (b1, b2) 7 [x0, x1, x2, x3] [zI s0, zI s1, zR 137] 137 h := by
  refine s_fgt (fgt_n _ (fgt_n _ (fgt_n _ (fgt_n _ fgt_0)))) ?_
  refine s_i2l dL_count_7 ?_
  refine s_last (c := 137) (i := s1) dL_count_8 e137 r1.1 r1.2 ?_
  exact s_goto (tgt := 15) dL_count_9 (by decide) kk
theorem bL_count_13 {fr M1 M2 b1 b2 : Nat} {Q : RS → Nat → AH → Prop} {h : AH} {x0 x1 x2 x3 : AV}   (hq : Q (.inl (some (zI 1))) 137 h) : Wp mL_count (kR fr M1 M2) Q (b1, b2) 13 [x0, x1, x2, x3] [] 137 h := by
  refine s_fgt (fgt_n _ (fgt_n _ (fgt_n _ (fgt_n _ fgt_0)))) ?_
  refine s_iconst dL_count_13 ?_
  exact s_ireturn dL_count_14 ⟨.int, rfl, rfl⟩ hq (fun z => by cases z)
theorem bL_count_15 {fr M1 M2 b1 b2 : Nat} {Q : RS → Nat → AH → Prop} {h : AH} {x0 x1 x2 x3 : AV}   (hq : Q (.inl (some (zI 0))) 137 h) : Wp mL_count (kR fr M1 M2) Q (b1, b2) 15 [x0, x1, x2, x3] [] 137 h := by
  refine s_fgt (fgt_n _ (fgt_n _ (fgt_n _ (fgt_n _ fgt_0)))) ?_
  refine s_iconst dL_count_15 ?_
  exact s_ireturn dL_count_16 ⟨.int, rfl, rfl⟩ hq (fun z => by cases z)
theorem dL_wall_0 : decode mL_wall.cd 0 = .ok (.aload_n 3, 1) := by decide +kernel
theorem dL_wall_1 : decode mL_wall.cd 1 = .ok (.iconst 0, 1) := by decide +kernel
theorem dL_wall_2 : decode mL_wall.cd 2 = .ok (.aload_n 0, 1) := by decide +kernel
theorem dL_wall_3 : decode mL_wall.cd 3 = .ok (.iload_n 1, 1) := by decide +kernel
theorem dL_wall_4 : decode mL_wall.cd 4 = .ok (.iload_n 2, 1) := by decide +kernel
theorem dL_wall_5 : decode mL_wall.cd 5 = .ok (.invokevirtual 20, 3) := by decide +kernel
theorem dL_wall_8 : decode mL_wall.cd 8 = .ok (.i2l, 1) := by decide +kernel
theorem dL_wall_9 : decode mL_wall.cd 9 = .ok (.lastore, 1) := by decide +kernel
theorem dL_wall_10 : decode mL_wall.cd 10 = .ok (.goto 7, 3) := by decide +kernel
theorem dL_wall_13 : decode mL_wall.cd 13 = .ok (.astore 4, 2) := by decide +kernel
theorem dL_wall_15 : decode mL_wall.cd 15 = .ok (.iconst 1, 1) := by decide +kernel
theorem dL_wall_16 : decode mL_wall.cd 16 = .ok (.ireturn, 1) := by decide +kernel
theorem dL_wall_17 : decode mL_wall.cd 17 = .ok (.iconst 0, 1) := by decide +kernel
theorem dL_wall_18 : decode mL_wall.cd 18 = .ok (.ireturn, 1) := by decide +kernel
theorem bL_wall_0 {fr M1 M2 b1 b2 : Nat} {Q : RS → Nat → AH → Prop} {h : AH} {l1 l2 : Int} {x4 : AV} {R : Int → AH → Prop} {X : String → AH → Prop}   (hS : Sp mX11_wall true (fr - 1) 8 48 [zR 1, zI l1, zI l2] 137 h (rIx R X)) (hf : 1 ≤ fr := by omega) (g1 : 8 ≤ b1 := by omega) (g2 : 48 ≤ b2 := by omega) (kk : ∀ (x : Int) (h' : AH), R x h' → Wp mL_wall (kR fr M1 M2) Q (b1 - 8, b2 - 48) 8 [zR 1, zI l1, zI l2, zR 137, none] [zI x, zI 0, zR 137] 137 h') (kx : ∀ (E : String) (h' : AH), X E h' → Wx mL_wall (kR fr M1 M2) Q (b1 - 8, b2 - 48) 5 [zR 1, zI l1, zI l2, zR 137, none] 137 h' E) : Wp mL_wall (kR fr M1 M2) Q (b1, b2) 0 [zR 1, zI l1, zI l2, zR 137, x4] [] 137 h := by
  refine s_fgt (fgt_c (fgt_c (fgt_c (fgt_c (fgt_n _ fgt_0))))) ?_
  refine s_aload_n (x := 137) dL_wall_0 rfl ?_
  refine s_iconst dL_wall_1 ?_
  refine s_aload_n (x := 1) dL_wall_2 rfl ?_
  refine s_iload_n (x := l1) dL_wall_3 rfl ?_
  refine s_iload_n (x := l2) dL_wall_4 rfl ?_
  exact s_callV (as := [zI l1, zI l2]) (st := [zI 0, zR 137]) (o := 1) dL_wall_5 kL_20 rfl ⟨11, 18, TX11, e1, rfl, by decide⟩ rfl rfl (Nat.le_of_ble_eq_true rfl) hS (show fr - 1 + 1 ≤ fr by omega) g1 g2 (fun v n' h' hP _ => by
    obtain ⟨rfl, ⟨x, e, hR⟩ | ⟨E, e, _⟩⟩ := hP
    · cases e; exact kk x h' hR
    · cases e) (fun E n' h' _ hP => by
    obtain ⟨rfl, ⟨x, e, _⟩ | ⟨E', e, hX⟩⟩ := hP
    · cases e
    · cases e; exact kx E h' hX)
theorem bL_wall_8 {fr M1 M2 b1 b2 : Nat} {Q : RS → Nat → AH → Prop} {h : AH} {s1 s0 : Int} {x0 x1 x2 x3 x4 : AV}  (r1 : 0 ≤ s1 ∧ s1 < 1 := by omega) (kk : Wp mL_wall (kR fr M1 M2) Q (b1, b2) 17 [none, none, none, none, none] [] 137 (up h 137 s1 (i2l s0))) : Wp mL_wall (kR fr M1 M2) Q (b1, b2) 8 [x0, x1, x2, x3, x4] [zI s0, zI s1, zR 137] 137 h := by
  refine s_fgt (fgt_n _ (fgt_n _ (fgt_n _ (fgt_n _ (fgt_n _ fgt_0))))) ?_
  refine s_i2l dL_wall_8 ?_
  refine s_last (c := 137) (i := s1) dL_wall_9 e137 r1.1 r1.2 ?_
  exact s_goto (tgt := 17) dL_wall_10 (by decide) kk
theorem bL_wall_17 {fr M1 M2 b1 b2 : Nat} {Q : RS → Nat → AH → Prop} {h : AH} {x0 x1 x2 x3 x4 : AV}   (hq : Q (.inl (some (zI 0))) 137 h) : Wp mL_wall (kR fr M1 M2) Q (b1, b2) 17 [x0, x1, x2, x3, x4] [] 137 h := by
  refine s_fgt (fgt_n _ (fgt_n _ (fgt_n _ (fgt_n _ (fgt_n _ fgt_0))))) ?_
  refine s_iconst dL_wall_17 ?_
  exact s_ireturn dL_wall_18 ⟨.int, rfl, rfl⟩ hq (fun z => by cases z)
theorem dL_word_0 : decode mL_word.cd 0 = .ok (.aload_n 3, 1) := by decide +kernel
theorem dL_word_1 : decode mL_word.cd 1 = .ok (.iconst 0, 1) := by decide +kernel
theorem dL_word_2 : decode mL_word.cd 2 = .ok (.aload_n 0, 1) := by decide +kernel
theorem dL_word_3 : decode mL_word.cd 3 = .ok (.iload_n 1, 1) := by decide +kernel
theorem dL_word_4 : decode mL_word.cd 4 = .ok (.iload_n 2, 1) := by decide +kernel
theorem dL_word_5 : decode mL_word.cd 5 = .ok (.invokevirtual 24, 3) := by decide +kernel
theorem dL_word_8 : decode mL_word.cd 8 = .ok (.i2l, 1) := by decide +kernel
theorem dL_word_9 : decode mL_word.cd 9 = .ok (.lastore, 1) := by decide +kernel
theorem dL_word_10 : decode mL_word.cd 10 = .ok (.goto 7, 3) := by decide +kernel
theorem dL_word_13 : decode mL_word.cd 13 = .ok (.astore 4, 2) := by decide +kernel
theorem dL_word_15 : decode mL_word.cd 15 = .ok (.iconst 1, 1) := by decide +kernel
theorem dL_word_16 : decode mL_word.cd 16 = .ok (.ireturn, 1) := by decide +kernel
theorem dL_word_17 : decode mL_word.cd 17 = .ok (.iconst 0, 1) := by decide +kernel
theorem dL_word_18 : decode mL_word.cd 18 = .ok (.ireturn, 1) := by decide +kernel
theorem bL_word_0 {fr M1 M2 b1 b2 : Nat} {Q : RS → Nat → AH → Prop} {h : AH} {l1 l2 : Int} {x4 : AV} {R : Int → AH → Prop} {X : String → AH → Prop}   (hS : Sp mX11_word true (fr - 1) 8 48 [zR 1, zI l1, zI l2] 137 h (rIx R X)) (hf : 1 ≤ fr := by omega) (g1 : 8 ≤ b1 := by omega) (g2 : 48 ≤ b2 := by omega) (kk : ∀ (x : Int) (h' : AH), R x h' → Wp mL_word (kR fr M1 M2) Q (b1 - 8, b2 - 48) 8 [zR 1, zI l1, zI l2, zR 137, none] [zI x, zI 0, zR 137] 137 h') (kx : ∀ (E : String) (h' : AH), X E h' → Wx mL_word (kR fr M1 M2) Q (b1 - 8, b2 - 48) 5 [zR 1, zI l1, zI l2, zR 137, none] 137 h' E) : Wp mL_word (kR fr M1 M2) Q (b1, b2) 0 [zR 1, zI l1, zI l2, zR 137, x4] [] 137 h := by
  refine s_fgt (fgt_c (fgt_c (fgt_c (fgt_c (fgt_n _ fgt_0))))) ?_
  refine s_aload_n (x := 137) dL_word_0 rfl ?_
  refine s_iconst dL_word_1 ?_
  refine s_aload_n (x := 1) dL_word_2 rfl ?_
  refine s_iload_n (x := l1) dL_word_3 rfl ?_
  refine s_iload_n (x := l2) dL_word_4 rfl ?_
  exact s_callV (as := [zI l1, zI l2]) (st := [zI 0, zR 137]) (o := 1) dL_word_5 kL_24 rfl ⟨11, 18, TX11, e1, rfl, by decide⟩ rfl rfl (Nat.le_of_ble_eq_true rfl) hS (show fr - 1 + 1 ≤ fr by omega) g1 g2 (fun v n' h' hP _ => by
    obtain ⟨rfl, ⟨x, e, hR⟩ | ⟨E, e, _⟩⟩ := hP
    · cases e; exact kk x h' hR
    · cases e) (fun E n' h' _ hP => by
    obtain ⟨rfl, ⟨x, e, _⟩ | ⟨E', e, hX⟩⟩ := hP
    · cases e
    · cases e; exact kx E h' hX)
theorem bL_word_8 {fr M1 M2 b1 b2 : Nat} {Q : RS → Nat → AH → Prop} {h : AH} {s1 s0 : Int} {x0 x1 x2 x3 x4 : AV}  (r1 : 0 ≤ s1 ∧ s1 < 1 := by omega) (kk : Wp mL_word (kR fr M1 M2) Q (b1, b2) 17 [none, none, none, none, none] [] 137 (up h 137 s1 (i2l s0))) : Wp mL_word (kR fr M1 M2) Q (b1, b2) 8 [x0, x1, x2, x3, x4] [zI s0, zI s1, zR 137] 137 h := by
  refine s_fgt (fgt_n _ (fgt_n _ (fgt_n _ (fgt_n _ (fgt_n _ fgt_0))))) ?_
  refine s_i2l dL_word_8 ?_
  refine s_last (c := 137) (i := s1) dL_word_9 e137 r1.1 r1.2 ?_
  exact s_goto (tgt := 17) dL_word_10 (by decide) kk
theorem bL_word_17 {fr M1 M2 b1 b2 : Nat} {Q : RS → Nat → AH → Prop} {h : AH} {x0 x1 x2 x3 x4 : AV}   (hq : Q (.inl (some (zI 0))) 137 h) : Wp mL_word (kR fr M1 M2) Q (b1, b2) 17 [x0, x1, x2, x3, x4] [] 137 h := by
  refine s_fgt (fgt_n _ (fgt_n _ (fgt_n _ (fgt_n _ (fgt_n _ fgt_0))))) ?_
  refine s_iconst dL_word_17 ?_
  exact s_ireturn dL_word_18 ⟨.int, rfl, rfl⟩ hq (fun z => by cases z)
theorem dL_say_0 : decode mL_say.cd 0 = .ok (.aload_n 3, 1) := by decide +kernel
theorem dL_say_1 : decode mL_say.cd 1 = .ok (.iconst 0, 1) := by decide +kernel
theorem dL_say_2 : decode mL_say.cd 2 = .ok (.aload_n 0, 1) := by decide +kernel
theorem dL_say_3 : decode mL_say.cd 3 = .ok (.iload_n 1, 1) := by decide +kernel
theorem dL_say_4 : decode mL_say.cd 4 = .ok (.iload_n 2, 1) := by decide +kernel
theorem dL_say_5 : decode mL_say.cd 5 = .ok (.invokevirtual 27, 3) := by decide +kernel
theorem dL_say_8 : decode mL_say.cd 8 = .ok (.i2l, 1) := by decide +kernel
theorem dL_say_9 : decode mL_say.cd 9 = .ok (.lastore, 1) := by decide +kernel
theorem dL_say_10 : decode mL_say.cd 10 = .ok (.goto 7, 3) := by decide +kernel
theorem dL_say_13 : decode mL_say.cd 13 = .ok (.astore 4, 2) := by decide +kernel
theorem dL_say_15 : decode mL_say.cd 15 = .ok (.iconst 1, 1) := by decide +kernel
theorem dL_say_16 : decode mL_say.cd 16 = .ok (.ireturn, 1) := by decide +kernel
theorem dL_say_17 : decode mL_say.cd 17 = .ok (.iconst 0, 1) := by decide +kernel
theorem dL_say_18 : decode mL_say.cd 18 = .ok (.ireturn, 1) := by decide +kernel
theorem bL_say_0 {fr M1 M2 b1 b2 : Nat} {Q : RS → Nat → AH → Prop} {h : AH} {l1 l2 : Int} {x4 : AV} {R : Int → AH → Prop} {X : String → AH → Prop}   (hS : Sp mX11_say true (fr - 1) 8 48 [zR 1, zI l1, zI l2] 137 h (rIx R X)) (hf : 1 ≤ fr := by omega) (g1 : 8 ≤ b1 := by omega) (g2 : 48 ≤ b2 := by omega) (kk : ∀ (x : Int) (h' : AH), R x h' → Wp mL_say (kR fr M1 M2) Q (b1 - 8, b2 - 48) 8 [zR 1, zI l1, zI l2, zR 137, none] [zI x, zI 0, zR 137] 137 h') (kx : ∀ (E : String) (h' : AH), X E h' → Wx mL_say (kR fr M1 M2) Q (b1 - 8, b2 - 48) 5 [zR 1, zI l1, zI l2, zR 137, none] 137 h' E) : Wp mL_say (kR fr M1 M2) Q (b1, b2) 0 [zR 1, zI l1, zI l2, zR 137, x4] [] 137 h := by
  refine s_fgt (fgt_c (fgt_c (fgt_c (fgt_c (fgt_n _ fgt_0))))) ?_
  refine s_aload_n (x := 137) dL_say_0 rfl ?_
  refine s_iconst dL_say_1 ?_
  refine s_aload_n (x := 1) dL_say_2 rfl ?_
  refine s_iload_n (x := l1) dL_say_3 rfl ?_
  refine s_iload_n (x := l2) dL_say_4 rfl ?_
  exact s_callV (as := [zI l1, zI l2]) (st := [zI 0, zR 137]) (o := 1) dL_say_5 kL_27 rfl ⟨11, 18, TX11, e1, rfl, by decide⟩ rfl rfl (Nat.le_of_ble_eq_true rfl) hS (show fr - 1 + 1 ≤ fr by omega) g1 g2 (fun v n' h' hP _ => by
    obtain ⟨rfl, ⟨x, e, hR⟩ | ⟨E, e, _⟩⟩ := hP
    · cases e; exact kk x h' hR
    · cases e) (fun E n' h' _ hP => by
    obtain ⟨rfl, ⟨x, e, _⟩ | ⟨E', e, hX⟩⟩ := hP
    · cases e
    · cases e; exact kx E h' hX)
theorem bL_say_8 {fr M1 M2 b1 b2 : Nat} {Q : RS → Nat → AH → Prop} {h : AH} {s1 s0 : Int} {x0 x1 x2 x3 x4 : AV}  (r1 : 0 ≤ s1 ∧ s1 < 1 := by omega) (kk : Wp mL_say (kR fr M1 M2) Q (b1, b2) 17 [none, none, none, none, none] [] 137 (up h 137 s1 (i2l s0))) : Wp mL_say (kR fr M1 M2) Q (b1, b2) 8 [x0, x1, x2, x3, x4] [zI s0, zI s1, zR 137] 137 h := by
  refine s_fgt (fgt_n _ (fgt_n _ (fgt_n _ (fgt_n _ (fgt_n _ fgt_0))))) ?_
  refine s_i2l dL_say_8 ?_
  refine s_last (c := 137) (i := s1) dL_say_9 e137 r1.1 r1.2 ?_
  exact s_goto (tgt := 17) dL_say_10 (by decide) kk
theorem bL_say_17 {fr M1 M2 b1 b2 : Nat} {Q : RS → Nat → AH → Prop} {h : AH} {x0 x1 x2 x3 x4 : AV}   (hq : Q (.inl (some (zI 0))) 137 h) : Wp mL_say (kR fr M1 M2) Q (b1, b2) 17 [x0, x1, x2, x3, x4] [] 137 h := by
  refine s_fgt (fgt_n _ (fgt_n _ (fgt_n _ (fgt_n _ (fgt_n _ fgt_0))))) ?_
  refine s_iconst dL_say_17 ?_
  exact s_ireturn dL_say_18 ⟨.int, rfl, rfl⟩ hq (fun z => by cases z)
theorem dL_heard_0 : decode mL_heard.cd 0 = .ok (.aload 4, 2) := by decide +kernel
theorem dL_heard_2 : decode mL_heard.cd 2 = .ok (.iconst 0, 1) := by decide +kernel
theorem dL_heard_3 : decode mL_heard.cd 3 = .ok (.aload_n 0, 1) := by decide +kernel
theorem dL_heard_4 : decode mL_heard.cd 4 = .ok (.iload_n 1, 1) := by decide +kernel
theorem dL_heard_5 : decode mL_heard.cd 5 = .ok (.iload_n 2, 1) := by decide +kernel
theorem dL_heard_6 : decode mL_heard.cd 6 = .ok (.iload_n 3, 1) := by decide +kernel
theorem dL_heard_7 : decode mL_heard.cd 7 = .ok (.invokevirtual 30, 3) := by decide +kernel
theorem dL_heard_10 : decode mL_heard.cd 10 = .ok (.i2l, 1) := by decide +kernel
theorem dL_heard_11 : decode mL_heard.cd 11 = .ok (.lastore, 1) := by decide +kernel
theorem dL_heard_12 : decode mL_heard.cd 12 = .ok (.goto 7, 3) := by decide +kernel
theorem dL_heard_15 : decode mL_heard.cd 15 = .ok (.astore 5, 2) := by decide +kernel
theorem dL_heard_17 : decode mL_heard.cd 17 = .ok (.iconst 1, 1) := by decide +kernel
theorem dL_heard_18 : decode mL_heard.cd 18 = .ok (.ireturn, 1) := by decide +kernel
theorem dL_heard_19 : decode mL_heard.cd 19 = .ok (.iconst 0, 1) := by decide +kernel
theorem dL_heard_20 : decode mL_heard.cd 20 = .ok (.ireturn, 1) := by decide +kernel
theorem bL_heard_0 {fr M1 M2 b1 b2 : Nat} {Q : RS → Nat → AH → Prop} {h : AH} {l1 l2 l3 : Int} {x5 : AV} {R : Int → AH → Prop} {X : String → AH → Prop}   (hS : Sp mX11_heard true (fr - 1) 8 48 [zR 1, zI l1, zI l2, zI l3] 137 h (rIx R X)) (hf : 1 ≤ fr := by omega) (g1 : 8 ≤ b1 := by omega) (g2 : 48 ≤ b2 := by omega) (kk : ∀ (x : Int) (h' : AH), R x h' → Wp mL_heard (kR fr M1 M2) Q (b1 - 8, b2 - 48) 10 [zR 1, zI l1, zI l2, zI l3, zR 137, none] [zI x, zI 0, zR 137] 137 h') (kx : ∀ (E : String) (h' : AH), X E h' → Wx mL_heard (kR fr M1 M2) Q (b1 - 8, b2 - 48) 7 [zR 1, zI l1, zI l2, zI l3, zR 137, none] 137 h' E) : Wp mL_heard (kR fr M1 M2) Q (b1, b2) 0 [zR 1, zI l1, zI l2, zI l3, zR 137, x5] [] 137 h := by
  refine s_fgt (fgt_c (fgt_c (fgt_c (fgt_c (fgt_c (fgt_n _ fgt_0)))))) ?_
  refine s_aload (x := 137) dL_heard_0 rfl ?_
  refine s_iconst dL_heard_2 ?_
  refine s_aload_n (x := 1) dL_heard_3 rfl ?_
  refine s_iload_n (x := l1) dL_heard_4 rfl ?_
  refine s_iload_n (x := l2) dL_heard_5 rfl ?_
  refine s_iload_n (x := l3) dL_heard_6 rfl ?_
  exact s_callV (as := [zI l1, zI l2, zI l3]) (st := [zI 0, zR 137]) (o := 1) dL_heard_7 kL_30 rfl ⟨11, 18, TX11, e1, rfl, by decide⟩ rfl rfl (Nat.le_of_ble_eq_true rfl) hS (show fr - 1 + 1 ≤ fr by omega) g1 g2 (fun v n' h' hP _ => by
    obtain ⟨rfl, ⟨x, e, hR⟩ | ⟨E, e, _⟩⟩ := hP
    · cases e; exact kk x h' hR
    · cases e) (fun E n' h' _ hP => by
    obtain ⟨rfl, ⟨x, e, _⟩ | ⟨E', e, hX⟩⟩ := hP
    · cases e
    · cases e; exact kx E h' hX)
theorem bL_heard_10 {fr M1 M2 b1 b2 : Nat} {Q : RS → Nat → AH → Prop} {h : AH} {s1 s0 : Int} {x0 x1 x2 x3 x4 x5 : AV}  (r1 : 0 ≤ s1 ∧ s1 < 1 := by omega) (kk : Wp mL_heard (kR fr M1 M2) Q (b1, b2) 19 [none, none, none, none, none, none] [] 137 (up h 137 s1 (i2l s0))) : Wp mL_heard (kR fr M1 M2) Q (b1, b2) 10 [x0, x1, x2, x3, x4, x5] [zI s0, zI s1, zR 137] 137 h := by
  refine s_fgt (fgt_n _ (fgt_n _ (fgt_n _ (fgt_n _ (fgt_n _ (fgt_n _ fgt_0)))))) ?_
  refine s_i2l dL_heard_10 ?_
  refine s_last (c := 137) (i := s1) dL_heard_11 e137 r1.1 r1.2 ?_
  exact s_goto (tgt := 19) dL_heard_12 (by decide) kk
theorem bL_heard_19 {fr M1 M2 b1 b2 : Nat} {Q : RS → Nat → AH → Prop} {h : AH} {x0 x1 x2 x3 x4 x5 : AV}   (hq : Q (.inl (some (zI 0))) 137 h) : Wp mL_heard (kR fr M1 M2) Q (b1, b2) 19 [x0, x1, x2, x3, x4, x5] [] 137 h := by
  refine s_fgt (fgt_n _ (fgt_n _ (fgt_n _ (fgt_n _ (fgt_n _ (fgt_n _ fgt_0)))))) ?_
  refine s_iconst dL_heard_19 ?_
  exact s_ireturn dL_heard_20 ⟨.int, rfl, rfl⟩ hq (fun z => by cases z)
theorem dL_loud_0 : decode mL_loud.cd 0 = .ok (.aload 5, 2) := by decide +kernel
theorem dL_loud_2 : decode mL_loud.cd 2 = .ok (.iconst 0, 1) := by decide +kernel
theorem dL_loud_3 : decode mL_loud.cd 3 = .ok (.aload_n 0, 1) := by decide +kernel
theorem dL_loud_4 : decode mL_loud.cd 4 = .ok (.iload_n 1, 1) := by decide +kernel
theorem dL_loud_5 : decode mL_loud.cd 5 = .ok (.iload_n 2, 1) := by decide +kernel
theorem dL_loud_6 : decode mL_loud.cd 6 = .ok (.iload_n 3, 1) := by decide +kernel
theorem dL_loud_7 : decode mL_loud.cd 7 = .ok (.iload 4, 2) := by decide +kernel
theorem dL_loud_9 : decode mL_loud.cd 9 = .ok (.invokevirtual 34, 3) := by decide +kernel
theorem dL_loud_12 : decode mL_loud.cd 12 = .ok (.i2l, 1) := by decide +kernel
theorem dL_loud_13 : decode mL_loud.cd 13 = .ok (.lastore, 1) := by decide +kernel
theorem dL_loud_14 : decode mL_loud.cd 14 = .ok (.goto 7, 3) := by decide +kernel
theorem dL_loud_17 : decode mL_loud.cd 17 = .ok (.astore 6, 2) := by decide +kernel
theorem dL_loud_19 : decode mL_loud.cd 19 = .ok (.iconst 1, 1) := by decide +kernel
theorem dL_loud_20 : decode mL_loud.cd 20 = .ok (.ireturn, 1) := by decide +kernel
theorem dL_loud_21 : decode mL_loud.cd 21 = .ok (.iconst 0, 1) := by decide +kernel
theorem dL_loud_22 : decode mL_loud.cd 22 = .ok (.ireturn, 1) := by decide +kernel
theorem bL_loud_0 {fr M1 M2 b1 b2 : Nat} {Q : RS → Nat → AH → Prop} {h : AH} {l1 l2 l3 l4 : Int} {x6 : AV} {R : Int → AH → Prop} {X : String → AH → Prop}   (hS : Sp mX11_loud true (fr - 1) 8 48 [zR 1, zI l1, zI l2, zI l3, zI l4] 137 h (rIx R X)) (hf : 1 ≤ fr := by omega) (g1 : 8 ≤ b1 := by omega) (g2 : 48 ≤ b2 := by omega) (kk : ∀ (x : Int) (h' : AH), R x h' → Wp mL_loud (kR fr M1 M2) Q (b1 - 8, b2 - 48) 12 [zR 1, zI l1, zI l2, zI l3, zI l4, zR 137, none] [zI x, zI 0, zR 137] 137 h') (kx : ∀ (E : String) (h' : AH), X E h' → Wx mL_loud (kR fr M1 M2) Q (b1 - 8, b2 - 48) 9 [zR 1, zI l1, zI l2, zI l3, zI l4, zR 137, none] 137 h' E) : Wp mL_loud (kR fr M1 M2) Q (b1, b2) 0 [zR 1, zI l1, zI l2, zI l3, zI l4, zR 137, x6] [] 137 h := by
  refine s_fgt (fgt_c (fgt_c (fgt_c (fgt_c (fgt_c (fgt_c (fgt_n _ fgt_0))))))) ?_
  refine s_aload (x := 137) dL_loud_0 rfl ?_
  refine s_iconst dL_loud_2 ?_
  refine s_aload_n (x := 1) dL_loud_3 rfl ?_
  refine s_iload_n (x := l1) dL_loud_4 rfl ?_
  refine s_iload_n (x := l2) dL_loud_5 rfl ?_
  refine s_iload_n (x := l3) dL_loud_6 rfl ?_
  refine s_iload (x := l4) dL_loud_7 rfl ?_
  exact s_callV (as := [zI l1, zI l2, zI l3, zI l4]) (st := [zI 0, zR 137]) (o := 1) dL_loud_9 kL_34 rfl ⟨11, 18, TX11, e1, rfl, by decide⟩ rfl rfl (Nat.le_of_ble_eq_true rfl) hS (show fr - 1 + 1 ≤ fr by omega) g1 g2 (fun v n' h' hP _ => by
    obtain ⟨rfl, ⟨x, e, hR⟩ | ⟨E, e, _⟩⟩ := hP
    · cases e; exact kk x h' hR
    · cases e) (fun E n' h' _ hP => by
    obtain ⟨rfl, ⟨x, e, _⟩ | ⟨E', e, hX⟩⟩ := hP
    · cases e
    · cases e; exact kx E h' hX)
theorem bL_loud_12 {fr M1 M2 b1 b2 : Nat} {Q : RS → Nat → AH → Prop} {h : AH} {s1 s0 : Int} {x0 x1 x2 x3 x4 x5 x6 : AV}  (r1 : 0 ≤ s1 ∧ s1 < 1 := by omega) (kk : Wp mL_loud (kR fr M1 M2) Q (b1, b2) 21 [none, none, none, none, none, none, none] [] 137 (up h 137 s1 (i2l s0))) : Wp mL_loud (kR fr M1 M2) Q (b1, b2) 12 [x0, x1, x2, x3, x4, x5, x6] [zI s0, zI s1, zR 137] 137 h := by
  refine s_fgt (fgt_n _ (fgt_n _ (fgt_n _ (fgt_n _ (fgt_n _ (fgt_n _ (fgt_n _ fgt_0))))))) ?_
  refine s_i2l dL_loud_12 ?_
  refine s_last (c := 137) (i := s1) dL_loud_13 e137 r1.1 r1.2 ?_
  exact s_goto (tgt := 21) dL_loud_14 (by decide) kk
theorem bL_loud_21 {fr M1 M2 b1 b2 : Nat} {Q : RS → Nat → AH → Prop} {h : AH} {x0 x1 x2 x3 x4 x5 x6 : AV}   (hq : Q (.inl (some (zI 0))) 137 h) : Wp mL_loud (kR fr M1 M2) Q (b1, b2) 21 [x0, x1, x2, x3, x4, x5, x6] [] 137 h := by
  refine s_fgt (fgt_n _ (fgt_n _ (fgt_n _ (fgt_n _ (fgt_n _ (fgt_n _ (fgt_n _ fgt_0))))))) ?_
  refine s_iconst dL_loud_21 ?_
  exact s_ireturn dL_loud_22 ⟨.int, rfl, rfl⟩ hq (fun z => by cases z)
theorem dL_lines_0 : decode mL_lines.cd 0 = .ok (.aload_n 3, 1) := by decide +kernel
theorem dL_lines_1 : decode mL_lines.cd 1 = .ok (.iconst 0, 1) := by decide +kernel
theorem dL_lines_2 : decode mL_lines.cd 2 = .ok (.aload_n 0, 1) := by decide +kernel
theorem dL_lines_3 : decode mL_lines.cd 3 = .ok (.iload_n 1, 1) := by decide +kernel
theorem dL_lines_4 : decode mL_lines.cd 4 = .ok (.iload_n 2, 1) := by decide +kernel
theorem dL_lines_5 : decode mL_lines.cd 5 = .ok (.invokevirtual 38, 3) := by decide +kernel
theorem dL_lines_8 : decode mL_lines.cd 8 = .ok (.i2l, 1) := by decide +kernel
theorem dL_lines_9 : decode mL_lines.cd 9 = .ok (.lastore, 1) := by decide +kernel
theorem dL_lines_10 : decode mL_lines.cd 10 = .ok (.goto 7, 3) := by decide +kernel
theorem dL_lines_13 : decode mL_lines.cd 13 = .ok (.astore 4, 2) := by decide +kernel
theorem dL_lines_15 : decode mL_lines.cd 15 = .ok (.iconst 1, 1) := by decide +kernel
theorem dL_lines_16 : decode mL_lines.cd 16 = .ok (.ireturn, 1) := by decide +kernel
theorem dL_lines_17 : decode mL_lines.cd 17 = .ok (.iconst 0, 1) := by decide +kernel
theorem dL_lines_18 : decode mL_lines.cd 18 = .ok (.ireturn, 1) := by decide +kernel
theorem bL_lines_0 {fr M1 M2 b1 b2 : Nat} {Q : RS → Nat → AH → Prop} {h : AH} {l1 l2 : Int} {x4 : AV} {R : Int → AH → Prop} {X : String → AH → Prop}   (hS : Sp mX11_lines true (fr - 1) 8 48 [zR 1, zI l1, zI l2] 137 h (rIx R X)) (hf : 1 ≤ fr := by omega) (g1 : 8 ≤ b1 := by omega) (g2 : 48 ≤ b2 := by omega) (kk : ∀ (x : Int) (h' : AH), R x h' → Wp mL_lines (kR fr M1 M2) Q (b1 - 8, b2 - 48) 8 [zR 1, zI l1, zI l2, zR 137, none] [zI x, zI 0, zR 137] 137 h') (kx : ∀ (E : String) (h' : AH), X E h' → Wx mL_lines (kR fr M1 M2) Q (b1 - 8, b2 - 48) 5 [zR 1, zI l1, zI l2, zR 137, none] 137 h' E) : Wp mL_lines (kR fr M1 M2) Q (b1, b2) 0 [zR 1, zI l1, zI l2, zR 137, x4] [] 137 h := by
  refine s_fgt (fgt_c (fgt_c (fgt_c (fgt_c (fgt_n _ fgt_0))))) ?_
  refine s_aload_n (x := 137) dL_lines_0 rfl ?_
  refine s_iconst dL_lines_1 ?_
  refine s_aload_n (x := 1) dL_lines_2 rfl ?_
  refine s_iload_n (x := l1) dL_lines_3 rfl ?_
  refine s_iload_n (x := l2) dL_lines_4 rfl ?_
  exact s_callV (as := [zI l1, zI l2]) (st := [zI 0, zR 137]) (o := 1) dL_lines_5 kL_38 rfl ⟨11, 18, TX11, e1, rfl, by decide⟩ rfl rfl (Nat.le_of_ble_eq_true rfl) hS (show fr - 1 + 1 ≤ fr by omega) g1 g2 (fun v n' h' hP _ => by
    obtain ⟨rfl, ⟨x, e, hR⟩ | ⟨E, e, _⟩⟩ := hP
    · cases e; exact kk x h' hR
    · cases e) (fun E n' h' _ hP => by
    obtain ⟨rfl, ⟨x, e, _⟩ | ⟨E', e, hX⟩⟩ := hP
    · cases e
    · cases e; exact kx E h' hX)
theorem bL_lines_8 {fr M1 M2 b1 b2 : Nat} {Q : RS → Nat → AH → Prop} {h : AH} {s1 s0 : Int} {x0 x1 x2 x3 x4 : AV}  (r1 : 0 ≤ s1 ∧ s1 < 1 := by omega) (kk : Wp mL_lines (kR fr M1 M2) Q (b1, b2) 17 [none, none, none, none, none] [] 137 (up h 137 s1 (i2l s0))) : Wp mL_lines (kR fr M1 M2) Q (b1, b2) 8 [x0, x1, x2, x3, x4] [zI s0, zI s1, zR 137] 137 h := by
  refine s_fgt (fgt_n _ (fgt_n _ (fgt_n _ (fgt_n _ (fgt_n _ fgt_0))))) ?_
  refine s_i2l dL_lines_8 ?_
  refine s_last (c := 137) (i := s1) dL_lines_9 e137 r1.1 r1.2 ?_
  exact s_goto (tgt := 17) dL_lines_10 (by decide) kk
theorem bL_lines_17 {fr M1 M2 b1 b2 : Nat} {Q : RS → Nat → AH → Prop} {h : AH} {x0 x1 x2 x3 x4 : AV}   (hq : Q (.inl (some (zI 0))) 137 h) : Wp mL_lines (kR fr M1 M2) Q (b1, b2) 17 [x0, x1, x2, x3, x4] [] 137 h := by
  refine s_fgt (fgt_n _ (fgt_n _ (fgt_n _ (fgt_n _ (fgt_n _ fgt_0))))) ?_
  refine s_iconst dL_lines_17 ?_
  exact s_ireturn dL_lines_18 ⟨.int, rfl, rfl⟩ hq (fun z => by cases z)
theorem dL_line_0 : decode mL_line.cd 0 = .ok (.aload 4, 2) := by decide +kernel
theorem dL_line_2 : decode mL_line.cd 2 = .ok (.iconst 0, 1) := by decide +kernel
theorem dL_line_3 : decode mL_line.cd 3 = .ok (.aload_n 0, 1) := by decide +kernel
theorem dL_line_4 : decode mL_line.cd 4 = .ok (.iload_n 1, 1) := by decide +kernel
theorem dL_line_5 : decode mL_line.cd 5 = .ok (.iload_n 2, 1) := by decide +kernel
theorem dL_line_6 : decode mL_line.cd 6 = .ok (.iload_n 3, 1) := by decide +kernel
theorem dL_line_7 : decode mL_line.cd 7 = .ok (.invokevirtual 41, 3) := by decide +kernel
theorem dL_line_10 : decode mL_line.cd 10 = .ok (.i2l, 1) := by decide +kernel
theorem dL_line_11 : decode mL_line.cd 11 = .ok (.lastore, 1) := by decide +kernel
theorem dL_line_12 : decode mL_line.cd 12 = .ok (.goto 7, 3) := by decide +kernel
theorem dL_line_15 : decode mL_line.cd 15 = .ok (.astore 5, 2) := by decide +kernel
theorem dL_line_17 : decode mL_line.cd 17 = .ok (.iconst 1, 1) := by decide +kernel
theorem dL_line_18 : decode mL_line.cd 18 = .ok (.ireturn, 1) := by decide +kernel
theorem dL_line_19 : decode mL_line.cd 19 = .ok (.iconst 0, 1) := by decide +kernel
theorem dL_line_20 : decode mL_line.cd 20 = .ok (.ireturn, 1) := by decide +kernel
theorem bL_line_0 {fr M1 M2 b1 b2 : Nat} {Q : RS → Nat → AH → Prop} {h : AH} {l1 l2 l3 : Int} {x5 : AV} {R : Int → AH → Prop} {X : String → AH → Prop}   (hS : Sp mX11_line true (fr - 1) 8 48 [zR 1, zI l1, zI l2, zI l3] 137 h (rIx R X)) (hf : 1 ≤ fr := by omega) (g1 : 8 ≤ b1 := by omega) (g2 : 48 ≤ b2 := by omega) (kk : ∀ (x : Int) (h' : AH), R x h' → Wp mL_line (kR fr M1 M2) Q (b1 - 8, b2 - 48) 10 [zR 1, zI l1, zI l2, zI l3, zR 137, none] [zI x, zI 0, zR 137] 137 h') (kx : ∀ (E : String) (h' : AH), X E h' → Wx mL_line (kR fr M1 M2) Q (b1 - 8, b2 - 48) 7 [zR 1, zI l1, zI l2, zI l3, zR 137, none] 137 h' E) : Wp mL_line (kR fr M1 M2) Q (b1, b2) 0 [zR 1, zI l1, zI l2, zI l3, zR 137, x5] [] 137 h := by
  refine s_fgt (fgt_c (fgt_c (fgt_c (fgt_c (fgt_c (fgt_n _ fgt_0)))))) ?_
  refine s_aload (x := 137) dL_line_0 rfl ?_
  refine s_iconst dL_line_2 ?_
  refine s_aload_n (x := 1) dL_line_3 rfl ?_
  refine s_iload_n (x := l1) dL_line_4 rfl ?_
  refine s_iload_n (x := l2) dL_line_5 rfl ?_
  refine s_iload_n (x := l3) dL_line_6 rfl ?_
  exact s_callV (as := [zI l1, zI l2, zI l3]) (st := [zI 0, zR 137]) (o := 1) dL_line_7 kL_41 rfl ⟨11, 18, TX11, e1, rfl, by decide⟩ rfl rfl (Nat.le_of_ble_eq_true rfl) hS (show fr - 1 + 1 ≤ fr by omega) g1 g2 (fun v n' h' hP _ => by
    obtain ⟨rfl, ⟨x, e, hR⟩ | ⟨E, e, _⟩⟩ := hP
    · cases e; exact kk x h' hR
    · cases e) (fun E n' h' _ hP => by
    obtain ⟨rfl, ⟨x, e, _⟩ | ⟨E', e, hX⟩⟩ := hP
    · cases e
    · cases e; exact kx E h' hX)
theorem bL_line_10 {fr M1 M2 b1 b2 : Nat} {Q : RS → Nat → AH → Prop} {h : AH} {s1 s0 : Int} {x0 x1 x2 x3 x4 x5 : AV}  (r1 : 0 ≤ s1 ∧ s1 < 1 := by omega) (kk : Wp mL_line (kR fr M1 M2) Q (b1, b2) 19 [none, none, none, none, none, none] [] 137 (up h 137 s1 (i2l s0))) : Wp mL_line (kR fr M1 M2) Q (b1, b2) 10 [x0, x1, x2, x3, x4, x5] [zI s0, zI s1, zR 137] 137 h := by
  refine s_fgt (fgt_n _ (fgt_n _ (fgt_n _ (fgt_n _ (fgt_n _ (fgt_n _ fgt_0)))))) ?_
  refine s_i2l dL_line_10 ?_
  refine s_last (c := 137) (i := s1) dL_line_11 e137 r1.1 r1.2 ?_
  exact s_goto (tgt := 19) dL_line_12 (by decide) kk
theorem bL_line_19 {fr M1 M2 b1 b2 : Nat} {Q : RS → Nat → AH → Prop} {h : AH} {x0 x1 x2 x3 x4 x5 : AV}   (hq : Q (.inl (some (zI 0))) 137 h) : Wp mL_line (kR fr M1 M2) Q (b1, b2) 19 [x0, x1, x2, x3, x4, x5] [] 137 h := by
  refine s_fgt (fgt_n _ (fgt_n _ (fgt_n _ (fgt_n _ (fgt_n _ (fgt_n _ fgt_0)))))) ?_
  refine s_iconst dL_line_19 ?_
  exact s_ireturn dL_line_20 ⟨.int, rfl, rfl⟩ hq (fun z => by cases z)
theorem dL_still_0 : decode mL_still.cd 0 = .ok (.aload_n 3, 1) := by decide +kernel
theorem dL_still_1 : decode mL_still.cd 1 = .ok (.iconst 0, 1) := by decide +kernel
theorem dL_still_2 : decode mL_still.cd 2 = .ok (.aload_n 0, 1) := by decide +kernel
theorem dL_still_3 : decode mL_still.cd 3 = .ok (.iload_n 1, 1) := by decide +kernel
theorem dL_still_4 : decode mL_still.cd 4 = .ok (.iload_n 2, 1) := by decide +kernel
theorem dL_still_5 : decode mL_still.cd 5 = .ok (.invokevirtual 44, 3) := by decide +kernel
theorem dL_still_8 : decode mL_still.cd 8 = .ok (.i2l, 1) := by decide +kernel
theorem dL_still_9 : decode mL_still.cd 9 = .ok (.lastore, 1) := by decide +kernel
theorem dL_still_10 : decode mL_still.cd 10 = .ok (.goto 11, 3) := by decide +kernel
theorem dL_still_13 : decode mL_still.cd 13 = .ok (.astore 4, 2) := by decide +kernel
theorem dL_still_15 : decode mL_still.cd 15 = .ok (.iconst 1, 1) := by decide +kernel
theorem dL_still_16 : decode mL_still.cd 16 = .ok (.ireturn, 1) := by decide +kernel
theorem dL_still_17 : decode mL_still.cd 17 = .ok (.astore 4, 2) := by decide +kernel
theorem dL_still_19 : decode mL_still.cd 19 = .ok (.iconst 2, 1) := by decide +kernel
theorem dL_still_20 : decode mL_still.cd 20 = .ok (.ireturn, 1) := by decide +kernel
theorem dL_still_21 : decode mL_still.cd 21 = .ok (.iconst 0, 1) := by decide +kernel
theorem dL_still_22 : decode mL_still.cd 22 = .ok (.ireturn, 1) := by decide +kernel
theorem bL_still_0 {fr M1 M2 b1 b2 : Nat} {Q : RS → Nat → AH → Prop} {h : AH} {l1 l2 : Int} {x4 : AV} {R : Int → AH → Prop} {X : String → AH → Prop}   (hS : Sp mX11_still true (fr - 1) 8 48 [zR 1, zI l1, zI l2] 137 h (rIx R X)) (hf : 1 ≤ fr := by omega) (g1 : 8 ≤ b1 := by omega) (g2 : 48 ≤ b2 := by omega) (kk : ∀ (x : Int) (h' : AH), R x h' → Wp mL_still (kR fr M1 M2) Q (b1 - 8, b2 - 48) 8 [zR 1, zI l1, zI l2, zR 137, none] [zI x, zI 0, zR 137] 137 h') (kx : ∀ (E : String) (h' : AH), X E h' → Wx mL_still (kR fr M1 M2) Q (b1 - 8, b2 - 48) 5 [zR 1, zI l1, zI l2, zR 137, none] 137 h' E) : Wp mL_still (kR fr M1 M2) Q (b1, b2) 0 [zR 1, zI l1, zI l2, zR 137, x4] [] 137 h := by
  refine s_fgt (fgt_c (fgt_c (fgt_c (fgt_c (fgt_n _ fgt_0))))) ?_
  refine s_aload_n (x := 137) dL_still_0 rfl ?_
  refine s_iconst dL_still_1 ?_
  refine s_aload_n (x := 1) dL_still_2 rfl ?_
  refine s_iload_n (x := l1) dL_still_3 rfl ?_
  refine s_iload_n (x := l2) dL_still_4 rfl ?_
  exact s_callV (as := [zI l1, zI l2]) (st := [zI 0, zR 137]) (o := 1) dL_still_5 kL_44 rfl ⟨11, 18, TX11, e1, rfl, by decide⟩ rfl rfl (Nat.le_of_ble_eq_true rfl) hS (show fr - 1 + 1 ≤ fr by omega) g1 g2 (fun v n' h' hP _ => by
    obtain ⟨rfl, ⟨x, e, hR⟩ | ⟨E, e, _⟩⟩ := hP
    · cases e; exact kk x h' hR
    · cases e) (fun E n' h' _ hP => by
    obtain ⟨rfl, ⟨x, e, _⟩ | ⟨E', e, hX⟩⟩ := hP
    · cases e
    · cases e; exact kx E h' hX)
theorem bL_still_8 {fr M1 M2 b1 b2 : Nat} {Q : RS → Nat → AH → Prop} {h : AH} {s1 s0 : Int} {x0 x1 x2 x3 x4 : AV}  (r1 : 0 ≤ s1 ∧ s1 < 1 := by omega) (kk : Wp mL_still (kR fr M1 M2) Q (b1, b2) 21 [none, none, none, none, none] [] 137 (up h 137 s1 (i2l s0))) : Wp mL_still (kR fr M1 M2) Q (b1, b2) 8 [x0, x1, x2, x3, x4] [zI s0, zI s1, zR 137] 137 h := by
  refine s_fgt (fgt_n _ (fgt_n _ (fgt_n _ (fgt_n _ (fgt_n _ fgt_0))))) ?_
  refine s_i2l dL_still_8 ?_
  refine s_last (c := 137) (i := s1) dL_still_9 e137 r1.1 r1.2 ?_
  exact s_goto (tgt := 21) dL_still_10 (by decide) kk
theorem bL_still_21 {fr M1 M2 b1 b2 : Nat} {Q : RS → Nat → AH → Prop} {h : AH} {x0 x1 x2 x3 x4 : AV}   (hq : Q (.inl (some (zI 0))) 137 h) : Wp mL_still (kR fr M1 M2) Q (b1, b2) 21 [x0, x1, x2, x3, x4] [] 137 h := by
  refine s_fgt (fgt_n _ (fgt_n _ (fgt_n _ (fgt_n _ (fgt_n _ fgt_0))))) ?_
  refine s_iconst dL_still_21 ?_
  exact s_ireturn dL_still_22 ⟨.int, rfl, rfl⟩ hq (fun z => by cases z)
theorem dL_without_0 : decode mL_without.cd 0 = .ok (.aload_n 3, 1) := by decide +kernel
theorem dL_without_1 : decode mL_without.cd 1 = .ok (.iconst 0, 1) := by decide +kernel
theorem dL_without_2 : decode mL_without.cd 2 = .ok (.aload_n 0, 1) := by decide +kernel
theorem dL_without_3 : decode mL_without.cd 3 = .ok (.iload_n 1, 1) := by decide +kernel
theorem dL_without_4 : decode mL_without.cd 4 = .ok (.iload_n 2, 1) := by decide +kernel
theorem dL_without_5 : decode mL_without.cd 5 = .ok (.invokevirtual 47, 3) := by decide +kernel
theorem dL_without_8 : decode mL_without.cd 8 = .ok (.i2l, 1) := by decide +kernel
theorem dL_without_9 : decode mL_without.cd 9 = .ok (.lastore, 1) := by decide +kernel
theorem dL_without_10 : decode mL_without.cd 10 = .ok (.goto 7, 3) := by decide +kernel
theorem dL_without_13 : decode mL_without.cd 13 = .ok (.astore 4, 2) := by decide +kernel
theorem dL_without_15 : decode mL_without.cd 15 = .ok (.iconst 1, 1) := by decide +kernel
theorem dL_without_16 : decode mL_without.cd 16 = .ok (.ireturn, 1) := by decide +kernel
theorem dL_without_17 : decode mL_without.cd 17 = .ok (.iconst 0, 1) := by decide +kernel
theorem dL_without_18 : decode mL_without.cd 18 = .ok (.ireturn, 1) := by decide +kernel
theorem bL_without_0 {fr M1 M2 b1 b2 : Nat} {Q : RS → Nat → AH → Prop} {h : AH} {l1 l2 : Int} {x4 : AV} {R : Int → AH → Prop} {X : String → AH → Prop}   (hS : Sp mX11_without true (fr - 1) 8 48 [zR 1, zI l1, zI l2] 137 h (rIx R X)) (hf : 1 ≤ fr := by omega) (g1 : 8 ≤ b1 := by omega) (g2 : 48 ≤ b2 := by omega) (kk : ∀ (x : Int) (h' : AH), R x h' → Wp mL_without (kR fr M1 M2) Q (b1 - 8, b2 - 48) 8 [zR 1, zI l1, zI l2, zR 137, none] [zI x, zI 0, zR 137] 137 h') (kx : ∀ (E : String) (h' : AH), X E h' → Wx mL_without (kR fr M1 M2) Q (b1 - 8, b2 - 48) 5 [zR 1, zI l1, zI l2, zR 137, none] 137 h' E) : Wp mL_without (kR fr M1 M2) Q (b1, b2) 0 [zR 1, zI l1, zI l2, zR 137, x4] [] 137 h := by
  refine s_fgt (fgt_c (fgt_c (fgt_c (fgt_c (fgt_n _ fgt_0))))) ?_
  refine s_aload_n (x := 137) dL_without_0 rfl ?_
  refine s_iconst dL_without_1 ?_
  refine s_aload_n (x := 1) dL_without_2 rfl ?_
  refine s_iload_n (x := l1) dL_without_3 rfl ?_
  refine s_iload_n (x := l2) dL_without_4 rfl ?_
  exact s_callV (as := [zI l1, zI l2]) (st := [zI 0, zR 137]) (o := 1) dL_without_5 kL_47 rfl ⟨11, 18, TX11, e1, rfl, by decide⟩ rfl rfl (Nat.le_of_ble_eq_true rfl) hS (show fr - 1 + 1 ≤ fr by omega) g1 g2 (fun v n' h' hP _ => by
    obtain ⟨rfl, ⟨x, e, hR⟩ | ⟨E, e, _⟩⟩ := hP
    · cases e; exact kk x h' hR
    · cases e) (fun E n' h' _ hP => by
    obtain ⟨rfl, ⟨x, e, _⟩ | ⟨E', e, hX⟩⟩ := hP
    · cases e
    · cases e; exact kx E h' hX)
theorem bL_without_8 {fr M1 M2 b1 b2 : Nat} {Q : RS → Nat → AH → Prop} {h : AH} {s1 s0 : Int} {x0 x1 x2 x3 x4 : AV}  (r1 : 0 ≤ s1 ∧ s1 < 1 := by omega) (kk : Wp mL_without (kR fr M1 M2) Q (b1, b2) 17 [none, none, none, none, none] [] 137 (up h 137 s1 (i2l s0))) : Wp mL_without (kR fr M1 M2) Q (b1, b2) 8 [x0, x1, x2, x3, x4] [zI s0, zI s1, zR 137] 137 h := by
  refine s_fgt (fgt_n _ (fgt_n _ (fgt_n _ (fgt_n _ (fgt_n _ fgt_0))))) ?_
  refine s_i2l dL_without_8 ?_
  refine s_last (c := 137) (i := s1) dL_without_9 e137 r1.1 r1.2 ?_
  exact s_goto (tgt := 17) dL_without_10 (by decide) kk
theorem bL_without_17 {fr M1 M2 b1 b2 : Nat} {Q : RS → Nat → AH → Prop} {h : AH} {x0 x1 x2 x3 x4 : AV}   (hq : Q (.inl (some (zI 0))) 137 h) : Wp mL_without (kR fr M1 M2) Q (b1, b2) 17 [x0, x1, x2, x3, x4] [] 137 h := by
  refine s_fgt (fgt_n _ (fgt_n _ (fgt_n _ (fgt_n _ (fgt_n _ fgt_0))))) ?_
  refine s_iconst dL_without_17 ?_
  exact s_ireturn dL_without_18 ⟨.int, rfl, rfl⟩ hq (fun z => by cases z)
theorem dL_lasts_0 : decode mL_lasts.cd 0 = .ok (.aload_n 2, 1) := by decide +kernel
theorem dL_lasts_1 : decode mL_lasts.cd 1 = .ok (.iconst 0, 1) := by decide +kernel
theorem dL_lasts_2 : decode mL_lasts.cd 2 = .ok (.aload_n 0, 1) := by decide +kernel
theorem dL_lasts_3 : decode mL_lasts.cd 3 = .ok (.iload_n 1, 1) := by decide +kernel
theorem dL_lasts_4 : decode mL_lasts.cd 4 = .ok (.invokevirtual 50, 3) := by decide +kernel
theorem dL_lasts_7 : decode mL_lasts.cd 7 = .ok (.i2l, 1) := by decide +kernel
theorem dL_lasts_8 : decode mL_lasts.cd 8 = .ok (.lastore, 1) := by decide +kernel
theorem dL_lasts_9 : decode mL_lasts.cd 9 = .ok (.goto 6, 3) := by decide +kernel
theorem dL_lasts_12 : decode mL_lasts.cd 12 = .ok (.astore_n 3, 1) := by decide +kernel
theorem dL_lasts_13 : decode mL_lasts.cd 13 = .ok (.iconst 1, 1) := by decide +kernel
theorem dL_lasts_14 : decode mL_lasts.cd 14 = .ok (.ireturn, 1) := by decide +kernel
theorem dL_lasts_15 : decode mL_lasts.cd 15 = .ok (.iconst 0, 1) := by decide +kernel
theorem dL_lasts_16 : decode mL_lasts.cd 16 = .ok (.ireturn, 1) := by decide +kernel
theorem bL_lasts_0 {fr M1 M2 b1 b2 : Nat} {Q : RS → Nat → AH → Prop} {h : AH} {l1 : Int} {x3 : AV} {R : Int → AH → Prop} {X : String → AH → Prop}   (hS : Sp mX11_lasts true (fr - 1) 8 48 [zR 1, zI l1] 137 h (rIx R X)) (hf : 1 ≤ fr := by omega) (g1 : 8 ≤ b1 := by omega) (g2 : 48 ≤ b2 := by omega) (kk : ∀ (x : Int) (h' : AH), R x h' → Wp mL_lasts (kR fr M1 M2) Q (b1 - 8, b2 - 48) 7 [zR 1, zI l1, zR 137, none] [zI x, zI 0, zR 137] 137 h') (kx : ∀ (E : String) (h' : AH), X E h' → Wx mL_lasts (kR fr M1 M2) Q (b1 - 8, b2 - 48) 4 [zR 1, zI l1, zR 137, none] 137 h' E) : Wp mL_lasts (kR fr M1 M2) Q (b1, b2) 0 [zR 1, zI l1, zR 137, x3] [] 137 h := by
  refine s_fgt (fgt_c (fgt_c (fgt_c (fgt_n _ fgt_0)))) ?_
  refine s_aload_n (x := 137) dL_lasts_0 rfl ?_
  refine s_iconst dL_lasts_1 ?_
  refine s_aload_n (x := 1) dL_lasts_2 rfl ?_
  refine s_iload_n (x := l1) dL_lasts_3 rfl ?_
  exact s_callV (as := [zI l1]) (st := [zI 0, zR 137]) (o := 1) dL_lasts_4 kL_50 rfl ⟨11, 18, TX11, e1, rfl, by decide⟩ rfl rfl (Nat.le_of_ble_eq_true rfl) hS (show fr - 1 + 1 ≤ fr by omega) g1 g2 (fun v n' h' hP _ => by
    obtain ⟨rfl, ⟨x, e, hR⟩ | ⟨E, e, _⟩⟩ := hP
    · cases e; exact kk x h' hR
    · cases e) (fun E n' h' _ hP => by
    obtain ⟨rfl, ⟨x, e, _⟩ | ⟨E', e, hX⟩⟩ := hP
    · cases e
    · cases e; exact kx E h' hX)
theorem bL_lasts_7 {fr M1 M2 b1 b2 : Nat} {Q : RS → Nat → AH → Prop} {h : AH} {s1 s0 : Int} {x0 x1 x2 x3 : AV}  (r1 : 0 ≤ s1 ∧ s1 < 1 := by omega) (kk : Wp mL_lasts (kR fr M1 M2) Q (b1, b2) 15 [none, none, none, none] [] 137 (up h 137 s1 (i2l s0))) : Wp mL_lasts (kR fr M1 M2) Q (b1, b2) 7 [x0, x1, x2, x3] [zI s0, zI s1, zR 137] 137 h := by
  refine s_fgt (fgt_n _ (fgt_n _ (fgt_n _ (fgt_n _ fgt_0)))) ?_
  refine s_i2l dL_lasts_7 ?_
  refine s_last (c := 137) (i := s1) dL_lasts_8 e137 r1.1 r1.2 ?_
  exact s_goto (tgt := 15) dL_lasts_9 (by decide) kk
theorem bL_lasts_13 {fr M1 M2 b1 b2 : Nat} {Q : RS → Nat → AH → Prop} {h : AH} {x0 x1 x2 x3 : AV}   (hq : Q (.inl (some (zI 1))) 137 h) : Wp mL_lasts (kR fr M1 M2) Q (b1, b2) 13 [x0, x1, x2, x3] [] 137 h := by
  refine s_fgt (fgt_n _ (fgt_n _ (fgt_n _ (fgt_n _ fgt_0)))) ?_
  refine s_iconst dL_lasts_13 ?_
  exact s_ireturn dL_lasts_14 ⟨.int, rfl, rfl⟩ hq (fun z => by cases z)
theorem bL_lasts_15 {fr M1 M2 b1 b2 : Nat} {Q : RS → Nat → AH → Prop} {h : AH} {x0 x1 x2 x3 : AV}   (hq : Q (.inl (some (zI 0))) 137 h) : Wp mL_lasts (kR fr M1 M2) Q (b1, b2) 15 [x0, x1, x2, x3] [] 137 h := by
  refine s_fgt (fgt_n _ (fgt_n _ (fgt_n _ (fgt_n _ fgt_0)))) ?_
  refine s_iconst dL_lasts_15 ?_
  exact s_ireturn dL_lasts_16 ⟨.int, rfl, rfl⟩ hq (fun z => by cases z)
theorem dL_sing_0 : decode mL_sing.cd 0 = .ok (.aload_n 3, 1) := by decide +kernel
theorem dL_sing_1 : decode mL_sing.cd 1 = .ok (.iconst 0, 1) := by decide +kernel
theorem dL_sing_2 : decode mL_sing.cd 2 = .ok (.aload_n 0, 1) := by decide +kernel
theorem dL_sing_3 : decode mL_sing.cd 3 = .ok (.iload_n 1, 1) := by decide +kernel
theorem dL_sing_4 : decode mL_sing.cd 4 = .ok (.iload_n 2, 1) := by decide +kernel
theorem dL_sing_5 : decode mL_sing.cd 5 = .ok (.invokevirtual 53, 3) := by decide +kernel
theorem dL_sing_8 : decode mL_sing.cd 8 = .ok (.i2l, 1) := by decide +kernel
theorem dL_sing_9 : decode mL_sing.cd 9 = .ok (.lastore, 1) := by decide +kernel
theorem dL_sing_10 : decode mL_sing.cd 10 = .ok (.goto 7, 3) := by decide +kernel
theorem dL_sing_13 : decode mL_sing.cd 13 = .ok (.astore 4, 2) := by decide +kernel
theorem dL_sing_15 : decode mL_sing.cd 15 = .ok (.iconst 1, 1) := by decide +kernel
theorem dL_sing_16 : decode mL_sing.cd 16 = .ok (.ireturn, 1) := by decide +kernel
theorem dL_sing_17 : decode mL_sing.cd 17 = .ok (.iconst 0, 1) := by decide +kernel
theorem dL_sing_18 : decode mL_sing.cd 18 = .ok (.ireturn, 1) := by decide +kernel
theorem bL_sing_0 {fr M1 M2 b1 b2 : Nat} {Q : RS → Nat → AH → Prop} {h : AH} {l1 l2 : Int} {x4 : AV} {R : Int → AH → Prop} {X : String → AH → Prop}   (hS : Sp mX11_sing true (fr - 1) 8 48 [zR 1, zI l1, zI l2] 137 h (rIx R X)) (hf : 1 ≤ fr := by omega) (g1 : 8 ≤ b1 := by omega) (g2 : 48 ≤ b2 := by omega) (kk : ∀ (x : Int) (h' : AH), R x h' → Wp mL_sing (kR fr M1 M2) Q (b1 - 8, b2 - 48) 8 [zR 1, zI l1, zI l2, zR 137, none] [zI x, zI 0, zR 137] 137 h') (kx : ∀ (E : String) (h' : AH), X E h' → Wx mL_sing (kR fr M1 M2) Q (b1 - 8, b2 - 48) 5 [zR 1, zI l1, zI l2, zR 137, none] 137 h' E) : Wp mL_sing (kR fr M1 M2) Q (b1, b2) 0 [zR 1, zI l1, zI l2, zR 137, x4] [] 137 h := by
  refine s_fgt (fgt_c (fgt_c (fgt_c (fgt_c (fgt_n _ fgt_0))))) ?_
  refine s_aload_n (x := 137) dL_sing_0 rfl ?_
  refine s_iconst dL_sing_1 ?_
  refine s_aload_n (x := 1) dL_sing_2 rfl ?_
  refine s_iload_n (x := l1) dL_sing_3 rfl ?_
  refine s_iload_n (x := l2) dL_sing_4 rfl ?_
  exact s_callV (as := [zI l1, zI l2]) (st := [zI 0, zR 137]) (o := 1) dL_sing_5 kL_53 rfl ⟨11, 18, TX11, e1, rfl, by decide⟩ rfl rfl (Nat.le_of_ble_eq_true rfl) hS (show fr - 1 + 1 ≤ fr by omega) g1 g2 (fun v n' h' hP _ => by
    obtain ⟨rfl, ⟨x, e, hR⟩ | ⟨E, e, _⟩⟩ := hP
    · cases e; exact kk x h' hR
    · cases e) (fun E n' h' _ hP => by
    obtain ⟨rfl, ⟨x, e, _⟩ | ⟨E', e, hX⟩⟩ := hP
    · cases e
    · cases e; exact kx E h' hX)
theorem bL_sing_8 {fr M1 M2 b1 b2 : Nat} {Q : RS → Nat → AH → Prop} {h : AH} {s1 s0 : Int} {x0 x1 x2 x3 x4 : AV}  (r1 : 0 ≤ s1 ∧ s1 < 1 := by omega) (kk : Wp mL_sing (kR fr M1 M2) Q (b1, b2) 17 [none, none, none, none, none] [] 137 (up h 137 s1 (i2l s0))) : Wp mL_sing (kR fr M1 M2) Q (b1, b2) 8 [x0, x1, x2, x3, x4] [zI s0, zI s1, zR 137] 137 h := by
  refine s_fgt (fgt_n _ (fgt_n _ (fgt_n _ (fgt_n _ (fgt_n _ fgt_0))))) ?_
  refine s_i2l dL_sing_8 ?_
  refine s_last (c := 137) (i := s1) dL_sing_9 e137 r1.1 r1.2 ?_
  exact s_goto (tgt := 17) dL_sing_10 (by decide) kk
theorem bL_sing_17 {fr M1 M2 b1 b2 : Nat} {Q : RS → Nat → AH → Prop} {h : AH} {x0 x1 x2 x3 x4 : AV}   (hq : Q (.inl (some (zI 0))) 137 h) : Wp mL_sing (kR fr M1 M2) Q (b1, b2) 17 [x0, x1, x2, x3, x4] [] 137 h := by
  refine s_fgt (fgt_n _ (fgt_n _ (fgt_n _ (fgt_n _ (fgt_n _ fgt_0))))) ?_
  refine s_iconst dL_sing_17 ?_
  exact s_ireturn dL_sing_18 ⟨.int, rfl, rfl⟩ hq (fun z => by cases z)
theorem dL_round_0 : decode mL_round.cd 0 = .ok (.aload_n 2, 1) := by decide +kernel
theorem dL_round_1 : decode mL_round.cd 1 = .ok (.iconst 0, 1) := by decide +kernel
theorem dL_round_2 : decode mL_round.cd 2 = .ok (.aload_n 0, 1) := by decide +kernel
theorem dL_round_3 : decode mL_round.cd 3 = .ok (.iload_n 1, 1) := by decide +kernel
theorem dL_round_4 : decode mL_round.cd 4 = .ok (.invokevirtual 56, 3) := by decide +kernel
theorem dL_round_7 : decode mL_round.cd 7 = .ok (.i2l, 1) := by decide +kernel
theorem dL_round_8 : decode mL_round.cd 8 = .ok (.lastore, 1) := by decide +kernel
theorem dL_round_9 : decode mL_round.cd 9 = .ok (.goto 6, 3) := by decide +kernel
theorem dL_round_12 : decode mL_round.cd 12 = .ok (.astore_n 3, 1) := by decide +kernel
theorem dL_round_13 : decode mL_round.cd 13 = .ok (.iconst 1, 1) := by decide +kernel
theorem dL_round_14 : decode mL_round.cd 14 = .ok (.ireturn, 1) := by decide +kernel
theorem dL_round_15 : decode mL_round.cd 15 = .ok (.iconst 0, 1) := by decide +kernel
theorem dL_round_16 : decode mL_round.cd 16 = .ok (.ireturn, 1) := by decide +kernel
theorem bL_round_0 {fr M1 M2 b1 b2 : Nat} {Q : RS → Nat → AH → Prop} {h : AH} {l1 : Int} {x3 : AV} {R : Int → AH → Prop} {X : String → AH → Prop}   (hS : Sp mX11_round true (fr - 1) 8 48 [zR 1, zI l1] 137 h (rIx R X)) (hf : 1 ≤ fr := by omega) (g1 : 8 ≤ b1 := by omega) (g2 : 48 ≤ b2 := by omega) (kk : ∀ (x : Int) (h' : AH), R x h' → Wp mL_round (kR fr M1 M2) Q (b1 - 8, b2 - 48) 7 [zR 1, zI l1, zR 137, none] [zI x, zI 0, zR 137] 137 h') (kx : ∀ (E : String) (h' : AH), X E h' → Wx mL_round (kR fr M1 M2) Q (b1 - 8, b2 - 48) 4 [zR 1, zI l1, zR 137, none] 137 h' E) : Wp mL_round (kR fr M1 M2) Q (b1, b2) 0 [zR 1, zI l1, zR 137, x3] [] 137 h := by
  refine s_fgt (fgt_c (fgt_c (fgt_c (fgt_n _ fgt_0)))) ?_
  refine s_aload_n (x := 137) dL_round_0 rfl ?_
  refine s_iconst dL_round_1 ?_
  refine s_aload_n (x := 1) dL_round_2 rfl ?_
  refine s_iload_n (x := l1) dL_round_3 rfl ?_
  exact s_callV (as := [zI l1]) (st := [zI 0, zR 137]) (o := 1) dL_round_4 kL_56 rfl ⟨11, 18, TX11, e1, rfl, by decide⟩ rfl rfl (Nat.le_of_ble_eq_true rfl) hS (show fr - 1 + 1 ≤ fr by omega) g1 g2 (fun v n' h' hP _ => by
    obtain ⟨rfl, ⟨x, e, hR⟩ | ⟨E, e, _⟩⟩ := hP
    · cases e; exact kk x h' hR
    · cases e) (fun E n' h' _ hP => by
    obtain ⟨rfl, ⟨x, e, _⟩ | ⟨E', e, hX⟩⟩ := hP
    · cases e
    · cases e; exact kx E h' hX)
theorem bL_round_7 {fr M1 M2 b1 b2 : Nat} {Q : RS → Nat → AH → Prop} {h : AH} {s1 s0 : Int} {x0 x1 x2 x3 : AV}  (r1 : 0 ≤ s1 ∧ s1 < 1 := by omega) (kk : Wp mL_round (kR fr M1 M2) Q (b1, b2) 15 [none, none, none, none] [] 137 (up h 137 s1 (i2l s0))) : Wp mL_round (kR fr M1 M2) Q (b1, b2) 7 [x0, x1, x2, x3] [zI s0, zI s1, zR 137] 137 h := by
  refine s_fgt (fgt_n _ (fgt_n _ (fgt_n _ (fgt_n _ fgt_0)))) ?_
  refine s_i2l dL_round_7 ?_
  refine s_last (c := 137) (i := s1) dL_round_8 e137 r1.1 r1.2 ?_
  exact s_goto (tgt := 15) dL_round_9 (by decide) kk
theorem bL_round_13 {fr M1 M2 b1 b2 : Nat} {Q : RS → Nat → AH → Prop} {h : AH} {x0 x1 x2 x3 : AV}   (hq : Q (.inl (some (zI 1))) 137 h) : Wp mL_round (kR fr M1 M2) Q (b1, b2) 13 [x0, x1, x2, x3] [] 137 h := by
  refine s_fgt (fgt_n _ (fgt_n _ (fgt_n _ (fgt_n _ fgt_0)))) ?_
  refine s_iconst dL_round_13 ?_
  exact s_ireturn dL_round_14 ⟨.int, rfl, rfl⟩ hq (fun z => by cases z)
theorem bL_round_15 {fr M1 M2 b1 b2 : Nat} {Q : RS → Nat → AH → Prop} {h : AH} {x0 x1 x2 x3 : AV}   (hq : Q (.inl (some (zI 0))) 137 h) : Wp mL_round (kR fr M1 M2) Q (b1, b2) 15 [x0, x1, x2, x3] [] 137 h := by
  refine s_fgt (fgt_n _ (fgt_n _ (fgt_n _ (fgt_n _ fgt_0)))) ?_
  refine s_iconst dL_round_15 ?_
  exact s_ireturn dL_round_16 ⟨.int, rfl, rfl⟩ hq (fun z => by cases z)
theorem dL_tell_0 : decode mL_tell.cd 0 = .ok (.aload_n 2, 1) := by decide +kernel
theorem dL_tell_1 : decode mL_tell.cd 1 = .ok (.iconst 0, 1) := by decide +kernel
theorem dL_tell_2 : decode mL_tell.cd 2 = .ok (.aload_n 0, 1) := by decide +kernel
theorem dL_tell_3 : decode mL_tell.cd 3 = .ok (.iload_n 1, 1) := by decide +kernel
theorem dL_tell_4 : decode mL_tell.cd 4 = .ok (.invokevirtual 59, 3) := by decide +kernel
theorem dL_tell_7 : decode mL_tell.cd 7 = .ok (.i2l, 1) := by decide +kernel
theorem dL_tell_8 : decode mL_tell.cd 8 = .ok (.lastore, 1) := by decide +kernel
theorem dL_tell_9 : decode mL_tell.cd 9 = .ok (.goto 6, 3) := by decide +kernel
theorem dL_tell_12 : decode mL_tell.cd 12 = .ok (.astore_n 3, 1) := by decide +kernel
theorem dL_tell_13 : decode mL_tell.cd 13 = .ok (.iconst 1, 1) := by decide +kernel
theorem dL_tell_14 : decode mL_tell.cd 14 = .ok (.ireturn, 1) := by decide +kernel
theorem dL_tell_15 : decode mL_tell.cd 15 = .ok (.iconst 0, 1) := by decide +kernel
theorem dL_tell_16 : decode mL_tell.cd 16 = .ok (.ireturn, 1) := by decide +kernel
theorem bL_tell_0 {fr M1 M2 b1 b2 : Nat} {Q : RS → Nat → AH → Prop} {h : AH} {l1 : Int} {x3 : AV} {R : Int → AH → Prop} {X : String → AH → Prop}   (hS : Sp mX11_tell true (fr - 1) 8 48 [zR 1, zI l1] 137 h (rIx R X)) (hf : 1 ≤ fr := by omega) (g1 : 8 ≤ b1 := by omega) (g2 : 48 ≤ b2 := by omega) (kk : ∀ (x : Int) (h' : AH), R x h' → Wp mL_tell (kR fr M1 M2) Q (b1 - 8, b2 - 48) 7 [zR 1, zI l1, zR 137, none] [zI x, zI 0, zR 137] 137 h') (kx : ∀ (E : String) (h' : AH), X E h' → Wx mL_tell (kR fr M1 M2) Q (b1 - 8, b2 - 48) 4 [zR 1, zI l1, zR 137, none] 137 h' E) : Wp mL_tell (kR fr M1 M2) Q (b1, b2) 0 [zR 1, zI l1, zR 137, x3] [] 137 h := by
  refine s_fgt (fgt_c (fgt_c (fgt_c (fgt_n _ fgt_0)))) ?_
  refine s_aload_n (x := 137) dL_tell_0 rfl ?_
  refine s_iconst dL_tell_1 ?_
  refine s_aload_n (x := 1) dL_tell_2 rfl ?_
  refine s_iload_n (x := l1) dL_tell_3 rfl ?_
  exact s_callV (as := [zI l1]) (st := [zI 0, zR 137]) (o := 1) dL_tell_4 kL_59 rfl ⟨11, 18, TX11, e1, rfl, by decide⟩ rfl rfl (Nat.le_of_ble_eq_true rfl) hS (show fr - 1 + 1 ≤ fr by omega) g1 g2 (fun v n' h' hP _ => by
    obtain ⟨rfl, ⟨x, e, hR⟩ | ⟨E, e, _⟩⟩ := hP
    · cases e; exact kk x h' hR
    · cases e) (fun E n' h' _ hP => by
    obtain ⟨rfl, ⟨x, e, _⟩ | ⟨E', e, hX⟩⟩ := hP
    · cases e
    · cases e; exact kx E h' hX)
theorem bL_tell_7 {fr M1 M2 b1 b2 : Nat} {Q : RS → Nat → AH → Prop} {h : AH} {s1 s0 : Int} {x0 x1 x2 x3 : AV}  (r1 : 0 ≤ s1 ∧ s1 < 1 := by omega) (kk : Wp mL_tell (kR fr M1 M2) Q (b1, b2) 15 [none, none, none, none] [] 137 (up h 137 s1 (i2l s0))) : Wp mL_tell (kR fr M1 M2) Q (b1, b2) 7 [x0, x1, x2, x3] [zI s0, zI s1, zR 137] 137 h := by
  refine s_fgt (fgt_n _ (fgt_n _ (fgt_n _ (fgt_n _ fgt_0)))) ?_
  refine s_i2l dL_tell_7 ?_
  refine s_last (c := 137) (i := s1) dL_tell_8 e137 r1.1 r1.2 ?_
  exact s_goto (tgt := 15) dL_tell_9 (by decide) kk
theorem bL_tell_13 {fr M1 M2 b1 b2 : Nat} {Q : RS → Nat → AH → Prop} {h : AH} {x0 x1 x2 x3 : AV}   (hq : Q (.inl (some (zI 1))) 137 h) : Wp mL_tell (kR fr M1 M2) Q (b1, b2) 13 [x0, x1, x2, x3] [] 137 h := by
  refine s_fgt (fgt_n _ (fgt_n _ (fgt_n _ (fgt_n _ fgt_0)))) ?_
  refine s_iconst dL_tell_13 ?_
  exact s_ireturn dL_tell_14 ⟨.int, rfl, rfl⟩ hq (fun z => by cases z)
theorem bL_tell_15 {fr M1 M2 b1 b2 : Nat} {Q : RS → Nat → AH → Prop} {h : AH} {x0 x1 x2 x3 : AV}   (hq : Q (.inl (some (zI 0))) 137 h) : Wp mL_tell (kR fr M1 M2) Q (b1, b2) 15 [x0, x1, x2, x3] [] 137 h := by
  refine s_fgt (fgt_n _ (fgt_n _ (fgt_n _ (fgt_n _ fgt_0)))) ?_
  refine s_iconst dL_tell_15 ?_
  exact s_ireturn dL_tell_16 ⟨.int, rfl, rfl⟩ hq (fun z => by cases z)
theorem dL_rivals_0 : decode mL_rivals.cd 0 = .ok (.aload_n 3, 1) := by decide +kernel
theorem dL_rivals_1 : decode mL_rivals.cd 1 = .ok (.iconst 0, 1) := by decide +kernel
theorem dL_rivals_2 : decode mL_rivals.cd 2 = .ok (.aload_n 0, 1) := by decide +kernel
theorem dL_rivals_3 : decode mL_rivals.cd 3 = .ok (.iload_n 1, 1) := by decide +kernel
theorem dL_rivals_4 : decode mL_rivals.cd 4 = .ok (.iload_n 2, 1) := by decide +kernel
theorem dL_rivals_5 : decode mL_rivals.cd 5 = .ok (.invokevirtual 62, 3) := by decide +kernel
theorem dL_rivals_8 : decode mL_rivals.cd 8 = .ok (.i2l, 1) := by decide +kernel
theorem dL_rivals_9 : decode mL_rivals.cd 9 = .ok (.lastore, 1) := by decide +kernel
theorem dL_rivals_10 : decode mL_rivals.cd 10 = .ok (.goto 11, 3) := by decide +kernel
theorem dL_rivals_13 : decode mL_rivals.cd 13 = .ok (.astore 4, 2) := by decide +kernel
theorem dL_rivals_15 : decode mL_rivals.cd 15 = .ok (.iconst 1, 1) := by decide +kernel
theorem dL_rivals_16 : decode mL_rivals.cd 16 = .ok (.ireturn, 1) := by decide +kernel
theorem dL_rivals_17 : decode mL_rivals.cd 17 = .ok (.astore 4, 2) := by decide +kernel
theorem dL_rivals_19 : decode mL_rivals.cd 19 = .ok (.iconst 2, 1) := by decide +kernel
theorem dL_rivals_20 : decode mL_rivals.cd 20 = .ok (.ireturn, 1) := by decide +kernel
theorem dL_rivals_21 : decode mL_rivals.cd 21 = .ok (.iconst 0, 1) := by decide +kernel
theorem dL_rivals_22 : decode mL_rivals.cd 22 = .ok (.ireturn, 1) := by decide +kernel
theorem bL_rivals_0 {fr M1 M2 b1 b2 : Nat} {Q : RS → Nat → AH → Prop} {h : AH} {l1 l2 : Int} {x4 : AV} {R : Int → AH → Prop} {X : String → AH → Prop}   (hS : Sp mX11_rivals true (fr - 1) 8 48 [zR 1, zI l1, zI l2] 137 h (rIx R X)) (hf : 1 ≤ fr := by omega) (g1 : 8 ≤ b1 := by omega) (g2 : 48 ≤ b2 := by omega) (kk : ∀ (x : Int) (h' : AH), R x h' → Wp mL_rivals (kR fr M1 M2) Q (b1 - 8, b2 - 48) 8 [zR 1, zI l1, zI l2, zR 137, none] [zI x, zI 0, zR 137] 137 h') (kx : ∀ (E : String) (h' : AH), X E h' → Wx mL_rivals (kR fr M1 M2) Q (b1 - 8, b2 - 48) 5 [zR 1, zI l1, zI l2, zR 137, none] 137 h' E) : Wp mL_rivals (kR fr M1 M2) Q (b1, b2) 0 [zR 1, zI l1, zI l2, zR 137, x4] [] 137 h := by
  refine s_fgt (fgt_c (fgt_c (fgt_c (fgt_c (fgt_n _ fgt_0))))) ?_
  refine s_aload_n (x := 137) dL_rivals_0 rfl ?_
  refine s_iconst dL_rivals_1 ?_
  refine s_aload_n (x := 1) dL_rivals_2 rfl ?_
  refine s_iload_n (x := l1) dL_rivals_3 rfl ?_
  refine s_iload_n (x := l2) dL_rivals_4 rfl ?_
  exact s_callV (as := [zI l1, zI l2]) (st := [zI 0, zR 137]) (o := 1) dL_rivals_5 kL_62 rfl ⟨11, 18, TX11, e1, rfl, by decide⟩ rfl rfl (Nat.le_of_ble_eq_true rfl) hS (show fr - 1 + 1 ≤ fr by omega) g1 g2 (fun v n' h' hP _ => by
    obtain ⟨rfl, ⟨x, e, hR⟩ | ⟨E, e, _⟩⟩ := hP
    · cases e; exact kk x h' hR
    · cases e) (fun E n' h' _ hP => by
    obtain ⟨rfl, ⟨x, e, _⟩ | ⟨E', e, hX⟩⟩ := hP
    · cases e
    · cases e; exact kx E h' hX)
theorem bL_rivals_8 {fr M1 M2 b1 b2 : Nat} {Q : RS → Nat → AH → Prop} {h : AH} {s1 s0 : Int} {x0 x1 x2 x3 x4 : AV}  (r1 : 0 ≤ s1 ∧ s1 < 1 := by omega) (kk : Wp mL_rivals (kR fr M1 M2) Q (b1, b2) 21 [none, none, none, none, none] [] 137 (up h 137 s1 (i2l s0))) : Wp mL_rivals (kR fr M1 M2) Q (b1, b2) 8 [x0, x1, x2, x3, x4] [zI s0, zI s1, zR 137] 137 h := by
  refine s_fgt (fgt_n _ (fgt_n _ (fgt_n _ (fgt_n _ (fgt_n _ fgt_0))))) ?_
  refine s_i2l dL_rivals_8 ?_
  refine s_last (c := 137) (i := s1) dL_rivals_9 e137 r1.1 r1.2 ?_
  exact s_goto (tgt := 21) dL_rivals_10 (by decide) kk
theorem bL_rivals_21 {fr M1 M2 b1 b2 : Nat} {Q : RS → Nat → AH → Prop} {h : AH} {x0 x1 x2 x3 x4 : AV}   (hq : Q (.inl (some (zI 0))) 137 h) : Wp mL_rivals (kR fr M1 M2) Q (b1, b2) 21 [x0, x1, x2, x3, x4] [] 137 h := by
  refine s_fgt (fgt_n _ (fgt_n _ (fgt_n _ (fgt_n _ (fgt_n _ fgt_0))))) ?_
  refine s_iconst dL_rivals_21 ?_
  exact s_ireturn dL_rivals_22 ⟨.int, rfl, rfl⟩ hq (fun z => by cases z)
theorem dL_sayers_0 : decode mL_sayers.cd 0 = .ok (.aload_n 2, 1) := by decide +kernel
theorem dL_sayers_1 : decode mL_sayers.cd 1 = .ok (.iconst 0, 1) := by decide +kernel
theorem dL_sayers_2 : decode mL_sayers.cd 2 = .ok (.aload_n 0, 1) := by decide +kernel
theorem dL_sayers_3 : decode mL_sayers.cd 3 = .ok (.iload_n 1, 1) := by decide +kernel
theorem dL_sayers_4 : decode mL_sayers.cd 4 = .ok (.invokevirtual 65, 3) := by decide +kernel
theorem dL_sayers_7 : decode mL_sayers.cd 7 = .ok (.i2l, 1) := by decide +kernel
theorem dL_sayers_8 : decode mL_sayers.cd 8 = .ok (.lastore, 1) := by decide +kernel
theorem dL_sayers_9 : decode mL_sayers.cd 9 = .ok (.goto 6, 3) := by decide +kernel
theorem dL_sayers_12 : decode mL_sayers.cd 12 = .ok (.astore_n 3, 1) := by decide +kernel
theorem dL_sayers_13 : decode mL_sayers.cd 13 = .ok (.iconst 1, 1) := by decide +kernel
theorem dL_sayers_14 : decode mL_sayers.cd 14 = .ok (.ireturn, 1) := by decide +kernel
theorem dL_sayers_15 : decode mL_sayers.cd 15 = .ok (.iconst 0, 1) := by decide +kernel
theorem dL_sayers_16 : decode mL_sayers.cd 16 = .ok (.ireturn, 1) := by decide +kernel
theorem bL_sayers_0 {fr M1 M2 b1 b2 : Nat} {Q : RS → Nat → AH → Prop} {h : AH} {l1 : Int} {x3 : AV} {R : Int → AH → Prop} {X : String → AH → Prop}   (hS : Sp mX11_sayers true (fr - 1) 8 48 [zR 1, zI l1] 137 h (rIx R X)) (hf : 1 ≤ fr := by omega) (g1 : 8 ≤ b1 := by omega) (g2 : 48 ≤ b2 := by omega) (kk : ∀ (x : Int) (h' : AH), R x h' → Wp mL_sayers (kR fr M1 M2) Q (b1 - 8, b2 - 48) 7 [zR 1, zI l1, zR 137, none] [zI x, zI 0, zR 137] 137 h') (kx : ∀ (E : String) (h' : AH), X E h' → Wx mL_sayers (kR fr M1 M2) Q (b1 - 8, b2 - 48) 4 [zR 1, zI l1, zR 137, none] 137 h' E) : Wp mL_sayers (kR fr M1 M2) Q (b1, b2) 0 [zR 1, zI l1, zR 137, x3] [] 137 h := by
  refine s_fgt (fgt_c (fgt_c (fgt_c (fgt_n _ fgt_0)))) ?_
  refine s_aload_n (x := 137) dL_sayers_0 rfl ?_
  refine s_iconst dL_sayers_1 ?_
  refine s_aload_n (x := 1) dL_sayers_2 rfl ?_
  refine s_iload_n (x := l1) dL_sayers_3 rfl ?_
  exact s_callV (as := [zI l1]) (st := [zI 0, zR 137]) (o := 1) dL_sayers_4 kL_65 rfl ⟨11, 18, TX11, e1, rfl, by decide⟩ rfl rfl (Nat.le_of_ble_eq_true rfl) hS (show fr - 1 + 1 ≤ fr by omega) g1 g2 (fun v n' h' hP _ => by
    obtain ⟨rfl, ⟨x, e, hR⟩ | ⟨E, e, _⟩⟩ := hP
    · cases e; exact kk x h' hR
    · cases e) (fun E n' h' _ hP => by
    obtain ⟨rfl, ⟨x, e, _⟩ | ⟨E', e, hX⟩⟩ := hP
    · cases e
    · cases e; exact kx E h' hX)
theorem bL_sayers_7 {fr M1 M2 b1 b2 : Nat} {Q : RS → Nat → AH → Prop} {h : AH} {s1 s0 : Int} {x0 x1 x2 x3 : AV}  (r1 : 0 ≤ s1 ∧ s1 < 1 := by omega) (kk : Wp mL_sayers (kR fr M1 M2) Q (b1, b2) 15 [none, none, none, none] [] 137 (up h 137 s1 (i2l s0))) : Wp mL_sayers (kR fr M1 M2) Q (b1, b2) 7 [x0, x1, x2, x3] [zI s0, zI s1, zR 137] 137 h := by
  refine s_fgt (fgt_n _ (fgt_n _ (fgt_n _ (fgt_n _ fgt_0)))) ?_
  refine s_i2l dL_sayers_7 ?_
  refine s_last (c := 137) (i := s1) dL_sayers_8 e137 r1.1 r1.2 ?_
  exact s_goto (tgt := 15) dL_sayers_9 (by decide) kk
theorem bL_sayers_13 {fr M1 M2 b1 b2 : Nat} {Q : RS → Nat → AH → Prop} {h : AH} {x0 x1 x2 x3 : AV}   (hq : Q (.inl (some (zI 1))) 137 h) : Wp mL_sayers (kR fr M1 M2) Q (b1, b2) 13 [x0, x1, x2, x3] [] 137 h := by
  refine s_fgt (fgt_n _ (fgt_n _ (fgt_n _ (fgt_n _ fgt_0)))) ?_
  refine s_iconst dL_sayers_13 ?_
  exact s_ireturn dL_sayers_14 ⟨.int, rfl, rfl⟩ hq (fun z => by cases z)
theorem bL_sayers_15 {fr M1 M2 b1 b2 : Nat} {Q : RS → Nat → AH → Prop} {h : AH} {x0 x1 x2 x3 : AV}   (hq : Q (.inl (some (zI 0))) 137 h) : Wp mL_sayers (kR fr M1 M2) Q (b1, b2) 15 [x0, x1, x2, x3] [] 137 h := by
  refine s_fgt (fgt_n _ (fgt_n _ (fgt_n _ (fgt_n _ fgt_0)))) ?_
  refine s_iconst dL_sayers_15 ?_
  exact s_ireturn dL_sayers_16 ⟨.int, rfl, rfl⟩ hq (fun z => by cases z)
theorem dL_stand_0 : decode mL_stand.cd 0 = .ok (.aload 4, 2) := by decide +kernel
theorem dL_stand_2 : decode mL_stand.cd 2 = .ok (.iconst 0, 1) := by decide +kernel
theorem dL_stand_3 : decode mL_stand.cd 3 = .ok (.aload_n 0, 1) := by decide +kernel
theorem dL_stand_4 : decode mL_stand.cd 4 = .ok (.iload_n 1, 1) := by decide +kernel
theorem dL_stand_5 : decode mL_stand.cd 5 = .ok (.iload_n 2, 1) := by decide +kernel
theorem dL_stand_6 : decode mL_stand.cd 6 = .ok (.iload_n 3, 1) := by decide +kernel
theorem dL_stand_7 : decode mL_stand.cd 7 = .ok (.invokevirtual 68, 3) := by decide +kernel
theorem dL_stand_10 : decode mL_stand.cd 10 = .ok (.ifCond .eq 7, 3) := by decide +kernel
theorem dL_stand_13 : decode mL_stand.cd 13 = .ok (.lconst 1, 1) := by decide +kernel
theorem dL_stand_14 : decode mL_stand.cd 14 = .ok (.goto 4, 3) := by decide +kernel
theorem dL_stand_17 : decode mL_stand.cd 17 = .ok (.lconst 0, 1) := by decide +kernel
theorem dL_stand_18 : decode mL_stand.cd 18 = .ok (.lastore, 1) := by decide +kernel
theorem dL_stand_19 : decode mL_stand.cd 19 = .ok (.goto 7, 3) := by decide +kernel
theorem dL_stand_22 : decode mL_stand.cd 22 = .ok (.astore 5, 2) := by decide +kernel
theorem dL_stand_24 : decode mL_stand.cd 24 = .ok (.iconst 1, 1) := by decide +kernel
theorem dL_stand_25 : decode mL_stand.cd 25 = .ok (.ireturn, 1) := by decide +kernel
theorem dL_stand_26 : decode mL_stand.cd 26 = .ok (.iconst 0, 1) := by decide +kernel
theorem dL_stand_27 : decode mL_stand.cd 27 = .ok (.ireturn, 1) := by decide +kernel
theorem bL_stand_0 {fr M1 M2 b1 b2 : Nat} {Q : RS → Nat → AH → Prop} {h : AH} {l1 l2 l3 : Int} {x5 : AV} {R : Int → AH → Prop} {X : String → AH → Prop}   (hS : Sp mX11_stand true (fr - 1) 8 48 [zR 1, zI l1, zI l2, zI l3] 137 h (rIx R X)) (hf : 1 ≤ fr := by omega) (g1 : 8 ≤ b1 := by omega) (g2 : 48 ≤ b2 := by omega) (kk : ∀ (x : Int) (h' : AH), R x h' → Wp mL_stand (kR fr M1 M2) Q (b1 - 8, b2 - 48) 10 [zR 1, zI l1, zI l2, zI l3, zR 137, none] [zI x, zI 0, zR 137] 137 h') (kx : ∀ (E : String) (h' : AH), X E h' → Wx mL_stand (kR fr M1 M2) Q (b1 - 8, b2 - 48) 7 [zR 1, zI l1, zI l2, zI l3, zR 137, none] 137 h' E) : Wp mL_stand (kR fr M1 M2) Q (b1, b2) 0 [zR 1, zI l1, zI l2, zI l3, zR 137, x5] [] 137 h := by
  refine s_fgt (fgt_c (fgt_c (fgt_c (fgt_c (fgt_c (fgt_n _ fgt_0)))))) ?_
  refine s_aload (x := 137) dL_stand_0 rfl ?_
  refine s_iconst dL_stand_2 ?_
  refine s_aload_n (x := 1) dL_stand_3 rfl ?_
  refine s_iload_n (x := l1) dL_stand_4 rfl ?_
  refine s_iload_n (x := l2) dL_stand_5 rfl ?_
  refine s_iload_n (x := l3) dL_stand_6 rfl ?_
  exact s_callV (as := [zI l1, zI l2, zI l3]) (st := [zI 0, zR 137]) (o := 1) dL_stand_7 kL_68 rfl ⟨11, 18, TX11, e1, rfl, by decide⟩ rfl rfl (Nat.le_of_ble_eq_true rfl) hS (show fr - 1 + 1 ≤ fr by omega) g1 g2 (fun v n' h' hP _ => by
    obtain ⟨rfl, ⟨x, e, hR⟩ | ⟨E, e, _⟩⟩ := hP
    · cases e; exact kk x h' hR
    · cases e) (fun E n' h' _ hP => by
    obtain ⟨rfl, ⟨x, e, _⟩ | ⟨E', e, hX⟩⟩ := hP
    · cases e
    · cases e; exact kx E h' hX)
theorem bL_stand_10 {fr M1 M2 b1 b2 : Nat} {Q : RS → Nat → AH → Prop} {h : AH} {s1 s0 : Int} {x0 x1 x2 x3 x4 x5 : AV}  (r1 : -2147483648 ≤ s0 ∧ s0 < 2147483648 := by omega) (kt : s0 = 0 → Wp mL_stand (kR fr M1 M2) Q (b1, b2) 17 [none, none, none, none, none, none] [zI s1, zR 137] 137 h) (kf : ¬ s0 = 0 → Wp mL_stand (kR fr M1 M2) Q (b1, b2) 13 [none, none, none, none, none, none] [zI s1, zR 137] 137 h) : Wp mL_stand (kR fr M1 M2) Q (b1, b2) 10 [x0, x1, x2, x3, x4, x5] [zI s0, zI s1, zR 137] 137 h := by
  refine s_fgt (fgt_n _ (fgt_n _ (fgt_n _ (fgt_n _ (fgt_n _ (fgt_n _ fgt_0)))))) ?_
  exact s_if_eq (tgt := 17) dL_stand_10 (by decide) r1 kt kf
theorem bL_stand_13 {fr M1 M2 b1 b2 : Nat} {Q : RS → Nat → AH → Prop} {h : AH} {s0 : Int} {x0 x1 x2 x3 x4 x5 : AV}   (kk : Wp mL_stand (kR fr M1 M2) Q (b1, b2) 18 [none, none, none, none, none, none] [zL 1, zI s0, zR 137] 137 h) : Wp mL_stand (kR fr M1 M2) Q (b1, b2) 13 [x0, x1, x2, x3, x4, x5] [zI s0, zR 137] 137 h := by
  refine s_fgt (fgt_n _ (fgt_n _ (fgt_n _ (fgt_n _ (fgt_n _ (fgt_n _ fgt_0)))))) ?_
  refine s_lconst (v := 1) dL_stand_13 (by decide) ?_
  exact s_goto (tgt := 18) dL_stand_14 (by decide) kk
theorem bL_stand_17 {fr M1 M2 b1 b2 : Nat} {Q : RS → Nat → AH → Prop} {h : AH} {s0 : Int} {x0 x1 x2 x3 x4 x5 : AV}   (kk : Wp mL_stand (kR fr M1 M2) Q (b1, b2) 18 [none, none, none, none, none, none] [zL 0, zI s0, zR 137] 137 h) : Wp mL_stand (kR fr M1 M2) Q (b1, b2) 17 [x0, x1, x2, x3, x4, x5] [zI s0, zR 137] 137 h := by
  refine s_fgt (fgt_n _ (fgt_n _ (fgt_n _ (fgt_n _ (fgt_n _ (fgt_n _ fgt_0)))))) ?_
  refine s_lconst (v := 0) dL_stand_17 (by decide) ?_
  exact kk
theorem bL_stand_18 {fr M1 M2 b1 b2 : Nat} {Q : RS → Nat → AH → Prop} {h : AH} {s1 s0 : Int} {x0 x1 x2 x3 x4 x5 : AV}  (r1 : 0 ≤ s1 ∧ s1 < 1 := by omega) (kk : Wp mL_stand (kR fr M1 M2) Q (b1, b2) 26 [none, none, none, none, none, none] [] 137 (up h 137 s1 s0)) : Wp mL_stand (kR fr M1 M2) Q (b1, b2) 18 [x0, x1, x2, x3, x4, x5] [zL s0, zI s1, zR 137] 137 h := by
  refine s_fgt (fgt_n _ (fgt_n _ (fgt_n _ (fgt_n _ (fgt_n _ (fgt_n _ fgt_0)))))) ?_
  refine s_last (c := 137) (i := s1) dL_stand_18 e137 r1.1 r1.2 ?_
  exact s_goto (tgt := 26) dL_stand_19 (by decide) kk
theorem bL_stand_26 {fr M1 M2 b1 b2 : Nat} {Q : RS → Nat → AH → Prop} {h : AH} {x0 x1 x2 x3 x4 x5 : AV}   (hq : Q (.inl (some (zI 0))) 137 h) : Wp mL_stand (kR fr M1 M2) Q (b1, b2) 26 [x0, x1, x2, x3, x4, x5] [] 137 h := by
  refine s_fgt (fgt_n _ (fgt_n _ (fgt_n _ (fgt_n _ (fgt_n _ (fgt_n _ fgt_0)))))) ?_
  refine s_iconst dL_stand_26 ?_
  exact s_ireturn dL_stand_27 ⟨.int, rfl, rfl⟩ hq (fun z => by cases z)
theorem dL_matching_0 : decode mL_matching.cd 0 = .ok (.aload 4, 2) := by decide +kernel
theorem dL_matching_2 : decode mL_matching.cd 2 = .ok (.iconst 0, 1) := by decide +kernel
theorem dL_matching_3 : decode mL_matching.cd 3 = .ok (.aload_n 0, 1) := by decide +kernel
theorem dL_matching_4 : decode mL_matching.cd 4 = .ok (.iload_n 1, 1) := by decide +kernel
theorem dL_matching_5 : decode mL_matching.cd 5 = .ok (.iload_n 2, 1) := by decide +kernel
theorem dL_matching_6 : decode mL_matching.cd 6 = .ok (.iload_n 3, 1) := by decide +kernel
theorem dL_matching_7 : decode mL_matching.cd 7 = .ok (.invokevirtual 72, 3) := by decide +kernel
theorem dL_matching_10 : decode mL_matching.cd 10 = .ok (.i2l, 1) := by decide +kernel
theorem dL_matching_11 : decode mL_matching.cd 11 = .ok (.lastore, 1) := by decide +kernel
theorem dL_matching_12 : decode mL_matching.cd 12 = .ok (.goto 7, 3) := by decide +kernel
theorem dL_matching_15 : decode mL_matching.cd 15 = .ok (.astore 5, 2) := by decide +kernel
theorem dL_matching_17 : decode mL_matching.cd 17 = .ok (.iconst 1, 1) := by decide +kernel
theorem dL_matching_18 : decode mL_matching.cd 18 = .ok (.ireturn, 1) := by decide +kernel
theorem dL_matching_19 : decode mL_matching.cd 19 = .ok (.iconst 0, 1) := by decide +kernel
theorem dL_matching_20 : decode mL_matching.cd 20 = .ok (.ireturn, 1) := by decide +kernel
theorem bL_matching_0 {fr M1 M2 b1 b2 : Nat} {Q : RS → Nat → AH → Prop} {h : AH} {l1 l2 l3 : Int} {x5 : AV} {R : Int → AH → Prop} {X : String → AH → Prop}   (hS : Sp mX11_matching true (fr - 1) 8 48 [zR 1, zI l1, zI l2, zI l3] 137 h (rIx R X)) (hf : 1 ≤ fr := by omega) (g1 : 8 ≤ b1 := by omega) (g2 : 48 ≤ b2 := by omega) (kk : ∀ (x : Int) (h' : AH), R x h' → Wp mL_matching (kR fr M1 M2) Q (b1 - 8, b2 - 48) 10 [zR 1, zI l1, zI l2, zI l3, zR 137, none] [zI x, zI 0, zR 137] 137 h') (kx : ∀ (E : String) (h' : AH), X E h' → Wx mL_matching (kR fr M1 M2) Q (b1 - 8, b2 - 48) 7 [zR 1, zI l1, zI l2, zI l3, zR 137, none] 137 h' E) : Wp mL_matching (kR fr M1 M2) Q (b1, b2) 0 [zR 1, zI l1, zI l2, zI l3, zR 137, x5] [] 137 h := by
  refine s_fgt (fgt_c (fgt_c (fgt_c (fgt_c (fgt_c (fgt_n _ fgt_0)))))) ?_
  refine s_aload (x := 137) dL_matching_0 rfl ?_
  refine s_iconst dL_matching_2 ?_
  refine s_aload_n (x := 1) dL_matching_3 rfl ?_
  refine s_iload_n (x := l1) dL_matching_4 rfl ?_
  refine s_iload_n (x := l2) dL_matching_5 rfl ?_
  refine s_iload_n (x := l3) dL_matching_6 rfl ?_
  exact s_callV (as := [zI l1, zI l2, zI l3]) (st := [zI 0, zR 137]) (o := 1) dL_matching_7 kL_72 rfl ⟨11, 18, TX11, e1, rfl, by decide⟩ rfl rfl (Nat.le_of_ble_eq_true rfl) hS (show fr - 1 + 1 ≤ fr by omega) g1 g2 (fun v n' h' hP _ => by
    obtain ⟨rfl, ⟨x, e, hR⟩ | ⟨E, e, _⟩⟩ := hP
    · cases e; exact kk x h' hR
    · cases e) (fun E n' h' _ hP => by
    obtain ⟨rfl, ⟨x, e, _⟩ | ⟨E', e, hX⟩⟩ := hP
    · cases e
    · cases e; exact kx E h' hX)
theorem bL_matching_10 {fr M1 M2 b1 b2 : Nat} {Q : RS → Nat → AH → Prop} {h : AH} {s1 s0 : Int} {x0 x1 x2 x3 x4 x5 : AV}  (r1 : 0 ≤ s1 ∧ s1 < 1 := by omega) (kk : Wp mL_matching (kR fr M1 M2) Q (b1, b2) 19 [none, none, none, none, none, none] [] 137 (up h 137 s1 (i2l s0))) : Wp mL_matching (kR fr M1 M2) Q (b1, b2) 10 [x0, x1, x2, x3, x4, x5] [zI s0, zI s1, zR 137] 137 h := by
  refine s_fgt (fgt_n _ (fgt_n _ (fgt_n _ (fgt_n _ (fgt_n _ (fgt_n _ fgt_0)))))) ?_
  refine s_i2l dL_matching_10 ?_
  refine s_last (c := 137) (i := s1) dL_matching_11 e137 r1.1 r1.2 ?_
  exact s_goto (tgt := 19) dL_matching_12 (by decide) kk
theorem bL_matching_19 {fr M1 M2 b1 b2 : Nat} {Q : RS → Nat → AH → Prop} {h : AH} {x0 x1 x2 x3 x4 x5 : AV}   (hq : Q (.inl (some (zI 0))) 137 h) : Wp mL_matching (kR fr M1 M2) Q (b1, b2) 19 [x0, x1, x2, x3, x4, x5] [] 137 h := by
  refine s_fgt (fgt_n _ (fgt_n _ (fgt_n _ (fgt_n _ (fgt_n _ (fgt_n _ fgt_0)))))) ?_
  refine s_iconst dL_matching_19 ?_
  exact s_ireturn dL_matching_20 ⟨.int, rfl, rfl⟩ hq (fun z => by cases z)
theorem dL_moved_0 : decode mL_moved.cd 0 = .ok (.aload 6, 2) := by decide +kernel
theorem dL_moved_2 : decode mL_moved.cd 2 = .ok (.iconst 0, 1) := by decide +kernel
theorem dL_moved_3 : decode mL_moved.cd 3 = .ok (.aload_n 0, 1) := by decide +kernel
theorem dL_moved_4 : decode mL_moved.cd 4 = .ok (.iload_n 1, 1) := by decide +kernel
theorem dL_moved_5 : decode mL_moved.cd 5 = .ok (.iload_n 2, 1) := by decide +kernel
theorem dL_moved_6 : decode mL_moved.cd 6 = .ok (.iload_n 3, 1) := by decide +kernel
theorem dL_moved_7 : decode mL_moved.cd 7 = .ok (.iload 4, 2) := by decide +kernel
theorem dL_moved_9 : decode mL_moved.cd 9 = .ok (.iload 5, 2) := by decide +kernel
theorem dL_moved_11 : decode mL_moved.cd 11 = .ok (.invokevirtual 75, 3) := by decide +kernel
theorem dL_moved_14 : decode mL_moved.cd 14 = .ok (.i2l, 1) := by decide +kernel
theorem dL_moved_15 : decode mL_moved.cd 15 = .ok (.lastore, 1) := by decide +kernel
theorem dL_moved_16 : decode mL_moved.cd 16 = .ok (.goto 7, 3) := by decide +kernel
theorem dL_moved_19 : decode mL_moved.cd 19 = .ok (.astore 7, 2) := by decide +kernel
theorem dL_moved_21 : decode mL_moved.cd 21 = .ok (.iconst 1, 1) := by decide +kernel
theorem dL_moved_22 : decode mL_moved.cd 22 = .ok (.ireturn, 1) := by decide +kernel
theorem dL_moved_23 : decode mL_moved.cd 23 = .ok (.iconst 0, 1) := by decide +kernel
theorem dL_moved_24 : decode mL_moved.cd 24 = .ok (.ireturn, 1) := by decide +kernel
theorem bL_moved_0 {fr M1 M2 b1 b2 : Nat} {Q : RS → Nat → AH → Prop} {h : AH} {l1 l2 l3 l4 l5 : Int} {x7 : AV} {R : Int → AH → Prop} {X : String → AH → Prop}   (hS : Sp mX11_moved true (fr - 1) 8 48 [zR 1, zI l1, zI l2, zI l3, zI l4, zI l5] 137 h (rIx R X)) (hf : 1 ≤ fr := by omega) (g1 : 8 ≤ b1 := by omega) (g2 : 48 ≤ b2 := by omega) (kk : ∀ (x : Int) (h' : AH), R x h' → Wp mL_moved (kR fr M1 M2) Q (b1 - 8, b2 - 48) 14 [zR 1, zI l1, zI l2, zI l3, zI l4, zI l5, zR 137, none] [zI x, zI 0, zR 137] 137 h') (kx : ∀ (E : String) (h' : AH), X E h' → Wx mL_moved (kR fr M1 M2) Q (b1 - 8, b2 - 48) 11 [zR 1, zI l1, zI l2, zI l3, zI l4, zI l5, zR 137, none] 137 h' E) : Wp mL_moved (kR fr M1 M2) Q (b1, b2) 0 [zR 1, zI l1, zI l2, zI l3, zI l4, zI l5, zR 137, x7] [] 137 h := by
  refine s_fgt (fgt_c (fgt_c (fgt_c (fgt_c (fgt_c (fgt_c (fgt_c (fgt_n _ fgt_0)))))))) ?_
  refine s_aload (x := 137) dL_moved_0 rfl ?_
  refine s_iconst dL_moved_2 ?_
  refine s_aload_n (x := 1) dL_moved_3 rfl ?_
  refine s_iload_n (x := l1) dL_moved_4 rfl ?_
  refine s_iload_n (x := l2) dL_moved_5 rfl ?_
  refine s_iload_n (x := l3) dL_moved_6 rfl ?_
  refine s_iload (x := l4) dL_moved_7 rfl ?_
  refine s_iload (x := l5) dL_moved_9 rfl ?_
  exact s_callV (as := [zI l1, zI l2, zI l3, zI l4, zI l5]) (st := [zI 0, zR 137]) (o := 1) dL_moved_11 kL_75 rfl ⟨11, 18, TX11, e1, rfl, by decide⟩ rfl rfl (Nat.le_of_ble_eq_true rfl) hS (show fr - 1 + 1 ≤ fr by omega) g1 g2 (fun v n' h' hP _ => by
    obtain ⟨rfl, ⟨x, e, hR⟩ | ⟨E, e, _⟩⟩ := hP
    · cases e; exact kk x h' hR
    · cases e) (fun E n' h' _ hP => by
    obtain ⟨rfl, ⟨x, e, _⟩ | ⟨E', e, hX⟩⟩ := hP
    · cases e
    · cases e; exact kx E h' hX)
theorem bL_moved_14 {fr M1 M2 b1 b2 : Nat} {Q : RS → Nat → AH → Prop} {h : AH} {s1 s0 : Int} {x0 x1 x2 x3 x4 x5 x6 x7 : AV}  (r1 : 0 ≤ s1 ∧ s1 < 1 := by omega) (kk : Wp mL_moved (kR fr M1 M2) Q (b1, b2) 23 [none, none, none, none, none, none, none, none] [] 137 (up h 137 s1 (i2l s0))) : Wp mL_moved (kR fr M1 M2) Q (b1, b2) 14 [x0, x1, x2, x3, x4, x5, x6, x7] [zI s0, zI s1, zR 137] 137 h := by
  refine s_fgt (fgt_n _ (fgt_n _ (fgt_n _ (fgt_n _ (fgt_n _ (fgt_n _ (fgt_n _ (fgt_n _ fgt_0)))))))) ?_
  refine s_i2l dL_moved_14 ?_
  refine s_last (c := 137) (i := s1) dL_moved_15 e137 r1.1 r1.2 ?_
  exact s_goto (tgt := 23) dL_moved_16 (by decide) kk
theorem bL_moved_23 {fr M1 M2 b1 b2 : Nat} {Q : RS → Nat → AH → Prop} {h : AH} {x0 x1 x2 x3 x4 x5 x6 x7 : AV}   (hq : Q (.inl (some (zI 0))) 137 h) : Wp mL_moved (kR fr M1 M2) Q (b1, b2) 23 [x0, x1, x2, x3, x4, x5, x6, x7] [] 137 h := by
  refine s_fgt (fgt_n _ (fgt_n _ (fgt_n _ (fgt_n _ (fgt_n _ (fgt_n _ (fgt_n _ (fgt_n _ fgt_0)))))))) ?_
  refine s_iconst dL_moved_23 ?_
  exact s_ireturn dL_moved_24 ⟨.int, rfl, rfl⟩ hq (fun z => by cases z)
theorem dL_code_0 : decode mL_code.cd 0 = .ok (.aload_n 3, 1) := by decide +kernel
theorem dL_code_1 : decode mL_code.cd 1 = .ok (.iconst 0, 1) := by decide +kernel
theorem dL_code_2 : decode mL_code.cd 2 = .ok (.aload_n 0, 1) := by decide +kernel
theorem dL_code_3 : decode mL_code.cd 3 = .ok (.iload_n 1, 1) := by decide +kernel
theorem dL_code_4 : decode mL_code.cd 4 = .ok (.iload_n 2, 1) := by decide +kernel
theorem dL_code_5 : decode mL_code.cd 5 = .ok (.invokevirtual 79, 3) := by decide +kernel
theorem dL_code_8 : decode mL_code.cd 8 = .ok (.i2l, 1) := by decide +kernel
theorem dL_code_9 : decode mL_code.cd 9 = .ok (.lastore, 1) := by decide +kernel
theorem dL_code_10 : decode mL_code.cd 10 = .ok (.goto 7, 3) := by decide +kernel
theorem dL_code_13 : decode mL_code.cd 13 = .ok (.astore 4, 2) := by decide +kernel
theorem dL_code_15 : decode mL_code.cd 15 = .ok (.iconst 1, 1) := by decide +kernel
theorem dL_code_16 : decode mL_code.cd 16 = .ok (.ireturn, 1) := by decide +kernel
theorem dL_code_17 : decode mL_code.cd 17 = .ok (.iconst 0, 1) := by decide +kernel
theorem dL_code_18 : decode mL_code.cd 18 = .ok (.ireturn, 1) := by decide +kernel
theorem bL_code_0 {fr M1 M2 b1 b2 : Nat} {Q : RS → Nat → AH → Prop} {h : AH} {l1 l2 : Int} {x4 : AV} {R : Int → AH → Prop} {X : String → AH → Prop}   (hS : Sp mX11_code true (fr - 1) 8 48 [zR 1, zI l1, zI l2] 137 h (rIx R X)) (hf : 1 ≤ fr := by omega) (g1 : 8 ≤ b1 := by omega) (g2 : 48 ≤ b2 := by omega) (kk : ∀ (x : Int) (h' : AH), R x h' → Wp mL_code (kR fr M1 M2) Q (b1 - 8, b2 - 48) 8 [zR 1, zI l1, zI l2, zR 137, none] [zI x, zI 0, zR 137] 137 h') (kx : ∀ (E : String) (h' : AH), X E h' → Wx mL_code (kR fr M1 M2) Q (b1 - 8, b2 - 48) 5 [zR 1, zI l1, zI l2, zR 137, none] 137 h' E) : Wp mL_code (kR fr M1 M2) Q (b1, b2) 0 [zR 1, zI l1, zI l2, zR 137, x4] [] 137 h := by
  refine s_fgt (fgt_c (fgt_c (fgt_c (fgt_c (fgt_n _ fgt_0))))) ?_
  refine s_aload_n (x := 137) dL_code_0 rfl ?_
  refine s_iconst dL_code_1 ?_
  refine s_aload_n (x := 1) dL_code_2 rfl ?_
  refine s_iload_n (x := l1) dL_code_3 rfl ?_
  refine s_iload_n (x := l2) dL_code_4 rfl ?_
  exact s_callV (as := [zI l1, zI l2]) (st := [zI 0, zR 137]) (o := 1) dL_code_5 kL_79 rfl ⟨11, 18, TX11, e1, rfl, by decide⟩ rfl rfl (Nat.le_of_ble_eq_true rfl) hS (show fr - 1 + 1 ≤ fr by omega) g1 g2 (fun v n' h' hP _ => by
    obtain ⟨rfl, ⟨x, e, hR⟩ | ⟨E, e, _⟩⟩ := hP
    · cases e; exact kk x h' hR
    · cases e) (fun E n' h' _ hP => by
    obtain ⟨rfl, ⟨x, e, _⟩ | ⟨E', e, hX⟩⟩ := hP
    · cases e
    · cases e; exact kx E h' hX)
theorem bL_code_8 {fr M1 M2 b1 b2 : Nat} {Q : RS → Nat → AH → Prop} {h : AH} {s1 s0 : Int} {x0 x1 x2 x3 x4 : AV}  (r1 : 0 ≤ s1 ∧ s1 < 1 := by omega) (kk : Wp mL_code (kR fr M1 M2) Q (b1, b2) 17 [none, none, none, none, none] [] 137 (up h 137 s1 (i2l s0))) : Wp mL_code (kR fr M1 M2) Q (b1, b2) 8 [x0, x1, x2, x3, x4] [zI s0, zI s1, zR 137] 137 h := by
  refine s_fgt (fgt_n _ (fgt_n _ (fgt_n _ (fgt_n _ (fgt_n _ fgt_0))))) ?_
  refine s_i2l dL_code_8 ?_
  refine s_last (c := 137) (i := s1) dL_code_9 e137 r1.1 r1.2 ?_
  exact s_goto (tgt := 17) dL_code_10 (by decide) kk
theorem bL_code_17 {fr M1 M2 b1 b2 : Nat} {Q : RS → Nat → AH → Prop} {h : AH} {x0 x1 x2 x3 x4 : AV}   (hq : Q (.inl (some (zI 0))) 137 h) : Wp mL_code (kR fr M1 M2) Q (b1, b2) 17 [x0, x1, x2, x3, x4] [] 137 h := by
  refine s_fgt (fgt_n _ (fgt_n _ (fgt_n _ (fgt_n _ (fgt_n _ fgt_0))))) ?_
  refine s_iconst dL_code_17 ?_
  exact s_ireturn dL_code_18 ⟨.int, rfl, rfl⟩ hq (fun z => by cases z)
theorem dL_law_0 : decode mL_law.cd 0 = .ok (.new 8, 3) := by decide +kernel
theorem dL_law_3 : decode mL_law.cd 3 = .ok (.dup, 1) := by decide +kernel
theorem dL_law_4 : decode mL_law.cd 4 = .ok (.invokespecial 82, 3) := by decide +kernel
theorem dL_law_7 : decode mL_law.cd 7 = .ok (.astore_n 1, 1) := by decide +kernel
theorem dL_law_8 : decode mL_law.cd 8 = .ok (.new 83, 3) := by decide +kernel
theorem dL_law_11 : decode mL_law.cd 11 = .ok (.dup, 1) := by decide +kernel
theorem dL_law_12 : decode mL_law.cd 12 = .ok (.invokespecial 85, 3) := by decide +kernel
theorem dL_law_15 : decode mL_law.cd 15 = .ok (.astore_n 2, 1) := by decide +kernel
theorem dL_law_16 : decode mL_law.cd 16 = .ok (.iconst 1, 1) := by decide +kernel
theorem dL_law_17 : decode mL_law.cd 17 = .ok (.newarray .long, 2) := by decide +kernel
theorem dL_law_19 : decode mL_law.cd 19 = .ok (.astore_n 3, 1) := by decide +kernel
theorem dL_law_20 : decode mL_law.cd 20 = .ok (.iconst 0, 1) := by decide +kernel
theorem dL_law_21 : decode mL_law.cd 21 = .ok (.istore 4, 2) := by decide +kernel
theorem dL_law_23 : decode mL_law.cd 23 = .ok (.iload 4, 2) := by decide +kernel
theorem dL_law_25 : decode mL_law.cd 25 = .ok (.aload_n 0, 1) := by decide +kernel
theorem dL_law_26 : decode mL_law.cd 26 = .ok (.arraylength, 1) := by decide +kernel
theorem dL_law_27 : decode mL_law.cd 27 = .ok (.bipush 6, 2) := by decide +kernel
theorem dL_law_29 : decode mL_law.cd 29 = .ok (.isub, 1) := by decide +kernel
theorem dL_law_30 : decode mL_law.cd 30 = .ok (.if_icmp .gt 1747, 3) := by decide +kernel
theorem dL_law_33 : decode mL_law.cd 33 = .ok (.aload_n 0, 1) := by decide +kernel
theorem dL_law_34 : decode mL_law.cd 34 = .ok (.iload 4, 2) := by decide +kernel
theorem dL_law_36 : decode mL_law.cd 36 = .ok (.iaload, 1) := by decide +kernel
theorem dL_law_37 : decode mL_law.cd 37 = .ok (.bipush 31, 2) := by decide +kernel
theorem dL_law_39 : decode mL_law.cd 39 = .ok (.iand, 1) := by decide +kernel
theorem dL_law_40 : decode mL_law.cd 40 = .ok (.tableswitch 1731 0 26 #[124, 197, 253, 266, 322, 390, 458, 526, 539, 619, 711, 779, 859, 927, 995, 1051, 1119, 1175, 1231, 1244, 1312, 1368, 1455, 1535, 1639, 1707, 1718], 124) := by decide +kernel
theorem dL_law_164 : decode mL_law.cd 164 = .ok (.aload_n 1, 1) := by decide +kernel
theorem dL_law_165 : decode mL_law.cd 165 = .ok (.aload_n 0, 1) := by decide +kernel
theorem dL_law_166 : decode mL_law.cd 166 = .ok (.iload 4, 2) := by decide +kernel
theorem dL_law_168 : decode mL_law.cd 168 = .ok (.iconst 1, 1) := by decide +kernel
theorem dL_law_169 : decode mL_law.cd 169 = .ok (.iadd, 1) := by decide +kernel
theorem dL_law_170 : decode mL_law.cd 170 = .ok (.iaload, 1) := by decide +kernel
theorem dL_law_171 : decode mL_law.cd 171 = .ok (.aload_n 0, 1) := by decide +kernel
theorem dL_law_172 : decode mL_law.cd 172 = .ok (.iload 4, 2) := by decide +kernel
theorem dL_law_174 : decode mL_law.cd 174 = .ok (.iconst 2, 1) := by decide +kernel
theorem dL_law_175 : decode mL_law.cd 175 = .ok (.iadd, 1) := by decide +kernel
theorem dL_law_176 : decode mL_law.cd 176 = .ok (.iaload, 1) := by decide +kernel
theorem dL_law_177 : decode mL_law.cd 177 = .ok (.aload_n 0, 1) := by decide +kernel
theorem dL_law_178 : decode mL_law.cd 178 = .ok (.iload 4, 2) := by decide +kernel
theorem dL_law_180 : decode mL_law.cd 180 = .ok (.iconst 3, 1) := by decide +kernel
theorem dL_law_181 : decode mL_law.cd 181 = .ok (.iadd, 1) := by decide +kernel
theorem dL_law_182 : decode mL_law.cd 182 = .ok (.iaload, 1) := by decide +kernel
theorem dL_law_183 : decode mL_law.cd 183 = .ok (.aload_n 0, 1) := by decide +kernel
theorem dL_law_184 : decode mL_law.cd 184 = .ok (.iload 4, 2) := by decide +kernel
theorem dL_law_186 : decode mL_law.cd 186 = .ok (.iconst 4, 1) := by decide +kernel
theorem dL_law_187 : decode mL_law.cd 187 = .ok (.iadd, 1) := by decide +kernel
theorem dL_law_188 : decode mL_law.cd 188 = .ok (.iaload, 1) := by decide +kernel
theorem dL_law_189 : decode mL_law.cd 189 = .ok (.aload_n 0, 1) := by decide +kernel
theorem dL_law_190 : decode mL_law.cd 190 = .ok (.iload 4, 2) := by decide +kernel
theorem dL_law_192 : decode mL_law.cd 192 = .ok (.iconst 5, 1) := by decide +kernel
theorem dL_law_193 : decode mL_law.cd 193 = .ok (.iadd, 1) := by decide +kernel
theorem dL_law_194 : decode mL_law.cd 194 = .ok (.iaload, 1) := by decide +kernel
theorem dL_law_195 : decode mL_law.cd 195 = .ok (.invokevirtual 86, 3) := by decide +kernel
theorem dL_law_198 : decode mL_law.cd 198 = .ok (.aload_n 2, 1) := by decide +kernel
theorem dL_law_199 : decode mL_law.cd 199 = .ok (.aload_n 0, 1) := by decide +kernel
theorem dL_law_200 : decode mL_law.cd 200 = .ok (.iload 4, 2) := by decide +kernel
theorem dL_law_202 : decode mL_law.cd 202 = .ok (.iconst 1, 1) := by decide +kernel
theorem dL_law_203 : decode mL_law.cd 203 = .ok (.iadd, 1) := by decide +kernel
theorem dL_law_204 : decode mL_law.cd 204 = .ok (.iaload, 1) := by decide +kernel
theorem dL_law_205 : decode mL_law.cd 205 = .ok (.aload_n 0, 1) := by decide +kernel
theorem dL_law_206 : decode mL_law.cd 206 = .ok (.iload 4, 2) := by decide +kernel
theorem dL_law_208 : decode mL_law.cd 208 = .ok (.iconst 2, 1) := by decide +kernel
theorem dL_law_209 : decode mL_law.cd 209 = .ok (.iadd, 1) := by decide +kernel
theorem dL_law_210 : decode mL_law.cd 210 = .ok (.iaload, 1) := by decide +kernel
theorem dL_law_211 : decode mL_law.cd 211 = .ok (.aload_n 0, 1) := by decide +kernel
theorem dL_law_212 : decode mL_law.cd 212 = .ok (.iload 4, 2) := by decide +kernel
theorem dL_law_214 : decode mL_law.cd 214 = .ok (.iconst 3, 1) := by decide +kernel
theorem dL_law_215 : decode mL_law.cd 215 = .ok (.iadd, 1) := by decide +kernel
theorem dL_law_216 : decode mL_law.cd 216 = .ok (.iaload, 1) := by decide +kernel
theorem dL_law_217 : decode mL_law.cd 217 = .ok (.aload_n 0, 1) := by decide +kernel
theorem dL_law_218 : decode mL_law.cd 218 = .ok (.iload 4, 2) := by decide +kernel
theorem dL_law_220 : decode mL_law.cd 220 = .ok (.iconst 4, 1) := by decide +kernel
theorem dL_law_221 : decode mL_law.cd 221 = .ok (.iadd, 1) := by decide +kernel
theorem dL_law_222 : decode mL_law.cd 222 = .ok (.iaload, 1) := by decide +kernel
theorem dL_law_223 : decode mL_law.cd 223 = .ok (.aload_n 0, 1) := by decide +kernel
theorem dL_law_224 : decode mL_law.cd 224 = .ok (.iload 4, 2) := by decide +kernel
theorem dL_law_226 : decode mL_law.cd 226 = .ok (.iconst 5, 1) := by decide +kernel
theorem dL_law_227 : decode mL_law.cd 227 = .ok (.iadd, 1) := by decide +kernel
theorem dL_law_228 : decode mL_law.cd 228 = .ok (.iaload, 1) := by decide +kernel
theorem dL_law_229 : decode mL_law.cd 229 = .ok (.invokevirtual 89, 3) := by decide +kernel
theorem dL_law_232 : decode mL_law.cd 232 = .ok (.if_icmp .eq 1539, 3) := by decide +kernel
theorem dL_law_235 : decode mL_law.cd 235 = .ok (.iconst 0, 1) := by decide +kernel
theorem dL_law_236 : decode mL_law.cd 236 = .ok (.ireturn, 1) := by decide +kernel
theorem dL_law_237 : decode mL_law.cd 237 = .ok (.aload_n 1, 1) := by decide +kernel
theorem dL_law_238 : decode mL_law.cd 238 = .ok (.aload_n 0, 1) := by decide +kernel
theorem dL_law_239 : decode mL_law.cd 239 = .ok (.iload 4, 2) := by decide +kernel
theorem dL_law_241 : decode mL_law.cd 241 = .ok (.iconst 1, 1) := by decide +kernel
theorem dL_law_242 : decode mL_law.cd 242 = .ok (.iadd, 1) := by decide +kernel
theorem dL_law_243 : decode mL_law.cd 243 = .ok (.iaload, 1) := by decide +kernel
theorem dL_law_244 : decode mL_law.cd 244 = .ok (.aload_n 3, 1) := by decide +kernel
theorem dL_law_245 : decode mL_law.cd 245 = .ok (.invokestatic 90, 3) := by decide +kernel
theorem dL_law_248 : decode mL_law.cd 248 = .ok (.istore 5, 2) := by decide +kernel
theorem dL_law_250 : decode mL_law.cd 250 = .ok (.aload_n 2, 1) := by decide +kernel
theorem dL_law_251 : decode mL_law.cd 251 = .ok (.aload_n 0, 1) := by decide +kernel
theorem dL_law_252 : decode mL_law.cd 252 = .ok (.iload 4, 2) := by decide +kernel
theorem dL_law_254 : decode mL_law.cd 254 = .ok (.iconst 1, 1) := by decide +kernel
theorem dL_law_255 : decode mL_law.cd 255 = .ok (.iadd, 1) := by decide +kernel
theorem dL_law_256 : decode mL_law.cd 256 = .ok (.iaload, 1) := by decide +kernel
theorem dL_law_257 : decode mL_law.cd 257 = .ok (.invokevirtual 95, 3) := by decide +kernel
theorem dL_law_260 : decode mL_law.cd 260 = .ok (.istore 6, 2) := by decide +kernel
theorem dL_law_262 : decode mL_law.cd 262 = .ok (.aload_n 2, 1) := by decide +kernel
theorem dL_law_263 : decode mL_law.cd 263 = .ok (.invokevirtual 96, 3) := by decide +kernel
theorem dL_law_266 : decode mL_law.cd 266 = .ok (.iload 5, 2) := by decide +kernel
theorem dL_law_268 : decode mL_law.cd 268 = .ok (.if_icmp .eq 5, 3) := by decide +kernel
theorem dL_law_271 : decode mL_law.cd 271 = .ok (.iconst 0, 1) := by decide +kernel
theorem dL_law_272 : decode mL_law.cd 272 = .ok (.ireturn, 1) := by decide +kernel
theorem dL_law_273 : decode mL_law.cd 273 = .ok (.iload 5, 2) := by decide +kernel
theorem dL_law_275 : decode mL_law.cd 275 = .ok (.ifCond .ne 15, 3) := by decide +kernel
theorem dL_law_278 : decode mL_law.cd 278 = .ok (.aload_n 3, 1) := by decide +kernel
theorem dL_law_279 : decode mL_law.cd 279 = .ok (.iconst 0, 1) := by decide +kernel
theorem dL_law_280 : decode mL_law.cd 280 = .ok (.laload, 1) := by decide +kernel
theorem dL_law_281 : decode mL_law.cd 281 = .ok (.iload 6, 2) := by decide +kernel
theorem dL_law_283 : decode mL_law.cd 283 = .ok (.i2l, 1) := by decide +kernel
theorem dL_law_284 : decode mL_law.cd 284 = .ok (.lcmp, 1) := by decide +kernel
theorem dL_law_285 : decode mL_law.cd 285 = .ok (.ifCond .eq 5, 3) := by decide +kernel
theorem dL_law_288 : decode mL_law.cd 288 = .ok (.iconst 0, 1) := by decide +kernel
theorem dL_law_289 : decode mL_law.cd 289 = .ok (.ireturn, 1) := by decide +kernel
theorem dL_law_290 : decode mL_law.cd 290 = .ok (.goto 1481, 3) := by decide +kernel
theorem dL_law_293 : decode mL_law.cd 293 = .ok (.aload_n 1, 1) := by decide +kernel
theorem dL_law_294 : decode mL_law.cd 294 = .ok (.invokevirtual 100, 3) := by decide +kernel
theorem dL_law_297 : decode mL_law.cd 297 = .ok (.aload_n 2, 1) := by decide +kernel
theorem dL_law_298 : decode mL_law.cd 298 = .ok (.invokevirtual 103, 3) := by decide +kernel
theorem dL_law_301 : decode mL_law.cd 301 = .ok (.if_icmp .eq 1470, 3) := by decide +kernel
theorem dL_law_304 : decode mL_law.cd 304 = .ok (.iconst 0, 1) := by decide +kernel
theorem dL_law_305 : decode mL_law.cd 305 = .ok (.ireturn, 1) := by decide +kernel
theorem dL_law_306 : decode mL_law.cd 306 = .ok (.aload_n 1, 1) := by decide +kernel
theorem dL_law_307 : decode mL_law.cd 307 = .ok (.aload_n 0, 1) := by decide +kernel
theorem dL_law_308 : decode mL_law.cd 308 = .ok (.iload 4, 2) := by decide +kernel
theorem dL_law_310 : decode mL_law.cd 310 = .ok (.iconst 1, 1) := by decide +kernel
theorem dL_law_311 : decode mL_law.cd 311 = .ok (.iadd, 1) := by decide +kernel
theorem dL_law_312 : decode mL_law.cd 312 = .ok (.iaload, 1) := by decide +kernel
theorem dL_law_313 : decode mL_law.cd 313 = .ok (.aload_n 3, 1) := by decide +kernel
theorem dL_law_314 : decode mL_law.cd 314 = .ok (.invokestatic 104, 3) := by decide +kernel
theorem dL_law_317 : decode mL_law.cd 317 = .ok (.istore 5, 2) := by decide +kernel
theorem dL_law_319 : decode mL_law.cd 319 = .ok (.aload_n 2, 1) := by decide +kernel
theorem dL_law_320 : decode mL_law.cd 320 = .ok (.aload_n 0, 1) := by decide +kernel
theorem dL_law_321 : decode mL_law.cd 321 = .ok (.iload 4, 2) := by decide +kernel
theorem dL_law_323 : decode mL_law.cd 323 = .ok (.iconst 1, 1) := by decide +kernel
theorem dL_law_324 : decode mL_law.cd 324 = .ok (.iadd, 1) := by decide +kernel
theorem dL_law_325 : decode mL_law.cd 325 = .ok (.iaload, 1) := by decide +kernel
theorem dL_law_326 : decode mL_law.cd 326 = .ok (.invokevirtual 106, 3) := by decide +kernel
theorem dL_law_329 : decode mL_law.cd 329 = .ok (.istore 6, 2) := by decide +kernel
theorem dL_law_331 : decode mL_law.cd 331 = .ok (.aload_n 2, 1) := by decide +kernel
theorem dL_law_332 : decode mL_law.cd 332 = .ok (.invokevirtual 96, 3) := by decide +kernel
theorem dL_law_335 : decode mL_law.cd 335 = .ok (.iload 5, 2) := by decide +kernel
theorem dL_law_337 : decode mL_law.cd 337 = .ok (.if_icmp .eq 5, 3) := by decide +kernel
theorem dL_law_340 : decode mL_law.cd 340 = .ok (.iconst 0, 1) := by decide +kernel
theorem dL_law_341 : decode mL_law.cd 341 = .ok (.ireturn, 1) := by decide +kernel
theorem dL_law_342 : decode mL_law.cd 342 = .ok (.iload 5, 2) := by decide +kernel
theorem dL_law_344 : decode mL_law.cd 344 = .ok (.ifCond .ne 15, 3) := by decide +kernel
theorem dL_law_347 : decode mL_law.cd 347 = .ok (.aload_n 3, 1) := by decide +kernel
theorem dL_law_348 : decode mL_law.cd 348 = .ok (.iconst 0, 1) := by decide +kernel
theorem dL_law_349 : decode mL_law.cd 349 = .ok (.laload, 1) := by decide +kernel
theorem dL_law_350 : decode mL_law.cd 350 = .ok (.iload 6, 2) := by decide +kernel
theorem dL_law_352 : decode mL_law.cd 352 = .ok (.i2l, 1) := by decide +kernel
theorem dL_law_353 : decode mL_law.cd 353 = .ok (.lcmp, 1) := by decide +kernel
theorem dL_law_354 : decode mL_law.cd 354 = .ok (.ifCond .eq 5, 3) := by decide +kernel
theorem dL_law_357 : decode mL_law.cd 357 = .ok (.iconst 0, 1) := by decide +kernel
theorem dL_law_358 : decode mL_law.cd 358 = .ok (.ireturn, 1) := by decide +kernel
theorem dL_law_359 : decode mL_law.cd 359 = .ok (.goto 1412, 3) := by decide +kernel
theorem dL_law_362 : decode mL_law.cd 362 = .ok (.aload_n 1, 1) := by decide +kernel
theorem dL_law_363 : decode mL_law.cd 363 = .ok (.aload_n 0, 1) := by decide +kernel
theorem dL_law_364 : decode mL_law.cd 364 = .ok (.iload 4, 2) := by decide +kernel
theorem dL_law_366 : decode mL_law.cd 366 = .ok (.iconst 1, 1) := by decide +kernel
theorem dL_law_367 : decode mL_law.cd 367 = .ok (.iadd, 1) := by decide +kernel
theorem dL_law_368 : decode mL_law.cd 368 = .ok (.iaload, 1) := by decide +kernel
theorem dL_law_369 : decode mL_law.cd 369 = .ok (.aload_n 0, 1) := by decide +kernel
theorem dL_law_370 : decode mL_law.cd 370 = .ok (.iload 4, 2) := by decide +kernel
theorem dL_law_372 : decode mL_law.cd 372 = .ok (.iconst 2, 1) := by decide +kernel
theorem dL_law_373 : decode mL_law.cd 373 = .ok (.iadd, 1) := by decide +kernel
theorem dL_law_374 : decode mL_law.cd 374 = .ok (.iaload, 1) := by decide +kernel
theorem dL_law_375 : decode mL_law.cd 375 = .ok (.aload_n 3, 1) := by decide +kernel
theorem dL_law_376 : decode mL_law.cd 376 = .ok (.invokestatic 107, 3) := by decide +kernel
theorem dL_law_379 : decode mL_law.cd 379 = .ok (.istore 5, 2) := by decide +kernel
theorem dL_law_381 : decode mL_law.cd 381 = .ok (.aload_n 2, 1) := by decide +kernel
theorem dL_law_382 : decode mL_law.cd 382 = .ok (.aload_n 0, 1) := by decide +kernel
theorem dL_law_383 : decode mL_law.cd 383 = .ok (.iload 4, 2) := by decide +kernel
theorem dL_law_385 : decode mL_law.cd 385 = .ok (.iconst 1, 1) := by decide +kernel
theorem dL_law_386 : decode mL_law.cd 386 = .ok (.iadd, 1) := by decide +kernel
theorem dL_law_387 : decode mL_law.cd 387 = .ok (.iaload, 1) := by decide +kernel
theorem dL_law_388 : decode mL_law.cd 388 = .ok (.aload_n 0, 1) := by decide +kernel
theorem dL_law_389 : decode mL_law.cd 389 = .ok (.iload 4, 2) := by decide +kernel
theorem dL_law_391 : decode mL_law.cd 391 = .ok (.iconst 2, 1) := by decide +kernel
theorem dL_law_392 : decode mL_law.cd 392 = .ok (.iadd, 1) := by decide +kernel
theorem dL_law_393 : decode mL_law.cd 393 = .ok (.iaload, 1) := by decide +kernel
theorem dL_law_394 : decode mL_law.cd 394 = .ok (.invokevirtual 110, 3) := by decide +kernel
theorem dL_law_397 : decode mL_law.cd 397 = .ok (.istore 6, 2) := by decide +kernel
theorem dL_law_399 : decode mL_law.cd 399 = .ok (.aload_n 2, 1) := by decide +kernel
theorem dL_law_400 : decode mL_law.cd 400 = .ok (.invokevirtual 96, 3) := by decide +kernel
theorem dL_law_403 : decode mL_law.cd 403 = .ok (.iload 5, 2) := by decide +kernel
theorem dL_law_405 : decode mL_law.cd 405 = .ok (.if_icmp .eq 5, 3) := by decide +kernel
theorem dL_law_408 : decode mL_law.cd 408 = .ok (.iconst 0, 1) := by decide +kernel
theorem dL_law_409 : decode mL_law.cd 409 = .ok (.ireturn, 1) := by decide +kernel
theorem dL_law_410 : decode mL_law.cd 410 = .ok (.iload 5, 2) := by decide +kernel
theorem dL_law_412 : decode mL_law.cd 412 = .ok (.ifCond .ne 15, 3) := by decide +kernel
theorem dL_law_415 : decode mL_law.cd 415 = .ok (.aload_n 3, 1) := by decide +kernel
theorem dL_law_416 : decode mL_law.cd 416 = .ok (.iconst 0, 1) := by decide +kernel
theorem dL_law_417 : decode mL_law.cd 417 = .ok (.laload, 1) := by decide +kernel
theorem dL_law_418 : decode mL_law.cd 418 = .ok (.iload 6, 2) := by decide +kernel
theorem dL_law_420 : decode mL_law.cd 420 = .ok (.i2l, 1) := by decide +kernel
theorem dL_law_421 : decode mL_law.cd 421 = .ok (.lcmp, 1) := by decide +kernel
theorem dL_law_422 : decode mL_law.cd 422 = .ok (.ifCond .eq 5, 3) := by decide +kernel
theorem dL_law_425 : decode mL_law.cd 425 = .ok (.iconst 0, 1) := by decide +kernel
theorem dL_law_426 : decode mL_law.cd 426 = .ok (.ireturn, 1) := by decide +kernel
theorem dL_law_427 : decode mL_law.cd 427 = .ok (.goto 1344, 3) := by decide +kernel
theorem dL_law_430 : decode mL_law.cd 430 = .ok (.aload_n 1, 1) := by decide +kernel
theorem dL_law_431 : decode mL_law.cd 431 = .ok (.aload_n 0, 1) := by decide +kernel
theorem dL_law_432 : decode mL_law.cd 432 = .ok (.iload 4, 2) := by decide +kernel
theorem dL_law_434 : decode mL_law.cd 434 = .ok (.iconst 1, 1) := by decide +kernel
theorem dL_law_435 : decode mL_law.cd 435 = .ok (.iadd, 1) := by decide +kernel
theorem dL_law_436 : decode mL_law.cd 436 = .ok (.iaload, 1) := by decide +kernel
theorem dL_law_437 : decode mL_law.cd 437 = .ok (.aload_n 0, 1) := by decide +kernel
theorem dL_law_438 : decode mL_law.cd 438 = .ok (.iload 4, 2) := by decide +kernel
theorem dL_law_440 : decode mL_law.cd 440 = .ok (.iconst 2, 1) := by decide +kernel
theorem dL_law_441 : decode mL_law.cd 441 = .ok (.iadd, 1) := by decide +kernel
theorem dL_law_442 : decode mL_law.cd 442 = .ok (.iaload, 1) := by decide +kernel
theorem dL_law_443 : decode mL_law.cd 443 = .ok (.aload_n 3, 1) := by decide +kernel
theorem dL_law_444 : decode mL_law.cd 444 = .ok (.invokestatic 111, 3) := by decide +kernel
theorem dL_law_447 : decode mL_law.cd 447 = .ok (.istore 5, 2) := by decide +kernel
theorem dL_law_449 : decode mL_law.cd 449 = .ok (.aload_n 2, 1) := by decide +kernel
theorem dL_law_450 : decode mL_law.cd 450 = .ok (.aload_n 0, 1) := by decide +kernel
theorem dL_law_451 : decode mL_law.cd 451 = .ok (.iload 4, 2) := by decide +kernel
theorem dL_law_453 : decode mL_law.cd 453 = .ok (.iconst 1, 1) := by decide +kernel
theorem dL_law_454 : decode mL_law.cd 454 = .ok (.iadd, 1) := by decide +kernel
theorem dL_law_455 : decode mL_law.cd 455 = .ok (.iaload, 1) := by decide +kernel
theorem dL_law_456 : decode mL_law.cd 456 = .ok (.aload_n 0, 1) := by decide +kernel
theorem dL_law_457 : decode mL_law.cd 457 = .ok (.iload 4, 2) := by decide +kernel
theorem dL_law_459 : decode mL_law.cd 459 = .ok (.iconst 2, 1) := by decide +kernel
theorem dL_law_460 : decode mL_law.cd 460 = .ok (.iadd, 1) := by decide +kernel
theorem dL_law_461 : decode mL_law.cd 461 = .ok (.iaload, 1) := by decide +kernel
theorem dL_law_462 : decode mL_law.cd 462 = .ok (.invokevirtual 113, 3) := by decide +kernel
theorem dL_law_465 : decode mL_law.cd 465 = .ok (.istore 6, 2) := by decide +kernel
theorem dL_law_467 : decode mL_law.cd 467 = .ok (.aload_n 2, 1) := by decide +kernel
theorem dL_law_468 : decode mL_law.cd 468 = .ok (.invokevirtual 96, 3) := by decide +kernel
theorem dL_law_471 : decode mL_law.cd 471 = .ok (.iload 5, 2) := by decide +kernel
theorem dL_law_473 : decode mL_law.cd 473 = .ok (.if_icmp .eq 5, 3) := by decide +kernel
theorem dL_law_476 : decode mL_law.cd 476 = .ok (.iconst 0, 1) := by decide +kernel
theorem dL_law_477 : decode mL_law.cd 477 = .ok (.ireturn, 1) := by decide +kernel
theorem dL_law_478 : decode mL_law.cd 478 = .ok (.iload 5, 2) := by decide +kernel
theorem dL_law_480 : decode mL_law.cd 480 = .ok (.ifCond .ne 15, 3) := by decide +kernel
theorem dL_law_483 : decode mL_law.cd 483 = .ok (.aload_n 3, 1) := by decide +kernel
theorem dL_law_484 : decode mL_law.cd 484 = .ok (.iconst 0, 1) := by decide +kernel
theorem dL_law_485 : decode mL_law.cd 485 = .ok (.laload, 1) := by decide +kernel
theorem dL_law_486 : decode mL_law.cd 486 = .ok (.iload 6, 2) := by decide +kernel
theorem dL_law_488 : decode mL_law.cd 488 = .ok (.i2l, 1) := by decide +kernel
theorem dL_law_489 : decode mL_law.cd 489 = .ok (.lcmp, 1) := by decide +kernel
theorem dL_law_490 : decode mL_law.cd 490 = .ok (.ifCond .eq 5, 3) := by decide +kernel
theorem dL_law_493 : decode mL_law.cd 493 = .ok (.iconst 0, 1) := by decide +kernel
theorem dL_law_494 : decode mL_law.cd 494 = .ok (.ireturn, 1) := by decide +kernel
theorem dL_law_495 : decode mL_law.cd 495 = .ok (.goto 1276, 3) := by decide +kernel
theorem dL_law_498 : decode mL_law.cd 498 = .ok (.aload_n 1, 1) := by decide +kernel
theorem dL_law_499 : decode mL_law.cd 499 = .ok (.aload_n 0, 1) := by decide +kernel
theorem dL_law_500 : decode mL_law.cd 500 = .ok (.iload 4, 2) := by decide +kernel
theorem dL_law_502 : decode mL_law.cd 502 = .ok (.iconst 1, 1) := by decide +kernel
theorem dL_law_503 : decode mL_law.cd 503 = .ok (.iadd, 1) := by decide +kernel
theorem dL_law_504 : decode mL_law.cd 504 = .ok (.iaload, 1) := by decide +kernel
theorem dL_law_505 : decode mL_law.cd 505 = .ok (.aload_n 0, 1) := by decide +kernel
theorem dL_law_506 : decode mL_law.cd 506 = .ok (.iload 4, 2) := by decide +kernel
theorem dL_law_508 : decode mL_law.cd 508 = .ok (.iconst 2, 1) := by decide +kernel
theorem dL_law_509 : decode mL_law.cd 509 = .ok (.iadd, 1) := by decide +kernel
theorem dL_law_510 : decode mL_law.cd 510 = .ok (.iaload, 1) := by decide +kernel
theorem dL_law_511 : decode mL_law.cd 511 = .ok (.aload_n 3, 1) := by decide +kernel
theorem dL_law_512 : decode mL_law.cd 512 = .ok (.invokestatic 114, 3) := by decide +kernel
theorem dL_law_515 : decode mL_law.cd 515 = .ok (.istore 5, 2) := by decide +kernel
theorem dL_law_517 : decode mL_law.cd 517 = .ok (.aload_n 2, 1) := by decide +kernel
theorem dL_law_518 : decode mL_law.cd 518 = .ok (.aload_n 0, 1) := by decide +kernel
theorem dL_law_519 : decode mL_law.cd 519 = .ok (.iload 4, 2) := by decide +kernel
theorem dL_law_521 : decode mL_law.cd 521 = .ok (.iconst 1, 1) := by decide +kernel
theorem dL_law_522 : decode mL_law.cd 522 = .ok (.iadd, 1) := by decide +kernel
theorem dL_law_523 : decode mL_law.cd 523 = .ok (.iaload, 1) := by decide +kernel
theorem dL_law_524 : decode mL_law.cd 524 = .ok (.aload_n 0, 1) := by decide +kernel
theorem dL_law_525 : decode mL_law.cd 525 = .ok (.iload 4, 2) := by decide +kernel
theorem dL_law_527 : decode mL_law.cd 527 = .ok (.iconst 2, 1) := by decide +kernel
theorem dL_law_528 : decode mL_law.cd 528 = .ok (.iadd, 1) := by decide +kernel
theorem dL_law_529 : decode mL_law.cd 529 = .ok (.iaload, 1) := by decide +kernel
theorem dL_law_530 : decode mL_law.cd 530 = .ok (.invokevirtual 116, 3) := by decide +kernel
theorem dL_law_533 : decode mL_law.cd 533 = .ok (.istore 6, 2) := by decide +kernel
theorem dL_law_535 : decode mL_law.cd 535 = .ok (.aload_n 2, 1) := by decide +kernel
theorem dL_law_536 : decode mL_law.cd 536 = .ok (.invokevirtual 96, 3) := by decide +kernel
theorem dL_law_539 : decode mL_law.cd 539 = .ok (.iload 5, 2) := by decide +kernel
theorem dL_law_541 : decode mL_law.cd 541 = .ok (.if_icmp .eq 5, 3) := by decide +kernel
theorem dL_law_544 : decode mL_law.cd 544 = .ok (.iconst 0, 1) := by decide +kernel
theorem dL_law_545 : decode mL_law.cd 545 = .ok (.ireturn, 1) := by decide +kernel
theorem dL_law_546 : decode mL_law.cd 546 = .ok (.iload 5, 2) := by decide +kernel
theorem dL_law_548 : decode mL_law.cd 548 = .ok (.ifCond .ne 15, 3) := by decide +kernel
theorem dL_law_551 : decode mL_law.cd 551 = .ok (.aload_n 3, 1) := by decide +kernel
theorem dL_law_552 : decode mL_law.cd 552 = .ok (.iconst 0, 1) := by decide +kernel
theorem dL_law_553 : decode mL_law.cd 553 = .ok (.laload, 1) := by decide +kernel
theorem dL_law_554 : decode mL_law.cd 554 = .ok (.iload 6, 2) := by decide +kernel
theorem dL_law_556 : decode mL_law.cd 556 = .ok (.i2l, 1) := by decide +kernel
theorem dL_law_557 : decode mL_law.cd 557 = .ok (.lcmp, 1) := by decide +kernel
theorem dL_law_558 : decode mL_law.cd 558 = .ok (.ifCond .eq 5, 3) := by decide +kernel
theorem dL_law_561 : decode mL_law.cd 561 = .ok (.iconst 0, 1) := by decide +kernel
theorem dL_law_562 : decode mL_law.cd 562 = .ok (.ireturn, 1) := by decide +kernel
theorem dL_law_563 : decode mL_law.cd 563 = .ok (.goto 1208, 3) := by decide +kernel
theorem dL_law_566 : decode mL_law.cd 566 = .ok (.aload_n 1, 1) := by decide +kernel
theorem dL_law_567 : decode mL_law.cd 567 = .ok (.invokevirtual 117, 3) := by decide +kernel
theorem dL_law_570 : decode mL_law.cd 570 = .ok (.aload_n 2, 1) := by decide +kernel
theorem dL_law_571 : decode mL_law.cd 571 = .ok (.invokevirtual 120, 3) := by decide +kernel
theorem dL_law_574 : decode mL_law.cd 574 = .ok (.if_icmp .eq 1197, 3) := by decide +kernel
theorem dL_law_577 : decode mL_law.cd 577 = .ok (.iconst 0, 1) := by decide +kernel
theorem dL_law_578 : decode mL_law.cd 578 = .ok (.ireturn, 1) := by decide +kernel
theorem dL_law_579 : decode mL_law.cd 579 = .ok (.aload_n 1, 1) := by decide +kernel
theorem dL_law_580 : decode mL_law.cd 580 = .ok (.aload_n 0, 1) := by decide +kernel
theorem dL_law_581 : decode mL_law.cd 581 = .ok (.iload 4, 2) := by decide +kernel
theorem dL_law_583 : decode mL_law.cd 583 = .ok (.iconst 1, 1) := by decide +kernel
theorem dL_law_584 : decode mL_law.cd 584 = .ok (.iadd, 1) := by decide +kernel
theorem dL_law_585 : decode mL_law.cd 585 = .ok (.iaload, 1) := by decide +kernel
theorem dL_law_586 : decode mL_law.cd 586 = .ok (.aload_n 0, 1) := by decide +kernel
theorem dL_law_587 : decode mL_law.cd 587 = .ok (.iload 4, 2) := by decide +kernel
theorem dL_law_589 : decode mL_law.cd 589 = .ok (.iconst 2, 1) := by decide +kernel
theorem dL_law_590 : decode mL_law.cd 590 = .ok (.iadd, 1) := by decide +kernel
theorem dL_law_591 : decode mL_law.cd 591 = .ok (.iaload, 1) := by decide +kernel
theorem dL_law_592 : decode mL_law.cd 592 = .ok (.aload_n 0, 1) := by decide +kernel
theorem dL_law_593 : decode mL_law.cd 593 = .ok (.iload 4, 2) := by decide +kernel
theorem dL_law_595 : decode mL_law.cd 595 = .ok (.iconst 3, 1) := by decide +kernel
theorem dL_law_596 : decode mL_law.cd 596 = .ok (.iadd, 1) := by decide +kernel
theorem dL_law_597 : decode mL_law.cd 597 = .ok (.iaload, 1) := by decide +kernel
theorem dL_law_598 : decode mL_law.cd 598 = .ok (.aload_n 3, 1) := by decide +kernel
theorem dL_law_599 : decode mL_law.cd 599 = .ok (.invokestatic 121, 3) := by decide +kernel
theorem dL_law_602 : decode mL_law.cd 602 = .ok (.istore 5, 2) := by decide +kernel
theorem dL_law_604 : decode mL_law.cd 604 = .ok (.aload_n 2, 1) := by decide +kernel
theorem dL_law_605 : decode mL_law.cd 605 = .ok (.aload_n 0, 1) := by decide +kernel
theorem dL_law_606 : decode mL_law.cd 606 = .ok (.iload 4, 2) := by decide +kernel
theorem dL_law_608 : decode mL_law.cd 608 = .ok (.iconst 1, 1) := by decide +kernel
theorem dL_law_609 : decode mL_law.cd 609 = .ok (.iadd, 1) := by decide +kernel
theorem dL_law_610 : decode mL_law.cd 610 = .ok (.iaload, 1) := by decide +kernel
theorem dL_law_611 : decode mL_law.cd 611 = .ok (.aload_n 0, 1) := by decide +kernel
theorem dL_law_612 : decode mL_law.cd 612 = .ok (.iload 4, 2) := by decide +kernel
theorem dL_law_614 : decode mL_law.cd 614 = .ok (.iconst 2, 1) := by decide +kernel
theorem dL_law_615 : decode mL_law.cd 615 = .ok (.iadd, 1) := by decide +kernel
theorem dL_law_616 : decode mL_law.cd 616 = .ok (.iaload, 1) := by decide +kernel
theorem dL_law_617 : decode mL_law.cd 617 = .ok (.aload_n 0, 1) := by decide +kernel
theorem dL_law_618 : decode mL_law.cd 618 = .ok (.iload 4, 2) := by decide +kernel
theorem dL_law_620 : decode mL_law.cd 620 = .ok (.iconst 3, 1) := by decide +kernel
theorem dL_law_621 : decode mL_law.cd 621 = .ok (.iadd, 1) := by decide +kernel
theorem dL_law_622 : decode mL_law.cd 622 = .ok (.iaload, 1) := by decide +kernel
theorem dL_law_623 : decode mL_law.cd 623 = .ok (.invokevirtual 124, 3) := by decide +kernel
theorem dL_law_626 : decode mL_law.cd 626 = .ok (.istore 6, 2) := by decide +kernel
theorem dL_law_628 : decode mL_law.cd 628 = .ok (.aload_n 2, 1) := by decide +kernel
theorem dL_law_629 : decode mL_law.cd 629 = .ok (.invokevirtual 96, 3) := by decide +kernel
theorem dL_law_632 : decode mL_law.cd 632 = .ok (.iload 5, 2) := by decide +kernel
theorem dL_law_634 : decode mL_law.cd 634 = .ok (.if_icmp .eq 5, 3) := by decide +kernel
theorem dL_law_637 : decode mL_law.cd 637 = .ok (.iconst 0, 1) := by decide +kernel
theorem dL_law_638 : decode mL_law.cd 638 = .ok (.ireturn, 1) := by decide +kernel
theorem dL_law_639 : decode mL_law.cd 639 = .ok (.iload 5, 2) := by decide +kernel
theorem dL_law_641 : decode mL_law.cd 641 = .ok (.ifCond .ne 15, 3) := by decide +kernel
theorem dL_law_644 : decode mL_law.cd 644 = .ok (.aload_n 3, 1) := by decide +kernel
theorem dL_law_645 : decode mL_law.cd 645 = .ok (.iconst 0, 1) := by decide +kernel
theorem dL_law_646 : decode mL_law.cd 646 = .ok (.laload, 1) := by decide +kernel
theorem dL_law_647 : decode mL_law.cd 647 = .ok (.iload 6, 2) := by decide +kernel
theorem dL_law_649 : decode mL_law.cd 649 = .ok (.i2l, 1) := by decide +kernel
theorem dL_law_650 : decode mL_law.cd 650 = .ok (.lcmp, 1) := by decide +kernel
theorem dL_law_651 : decode mL_law.cd 651 = .ok (.ifCond .eq 5, 3) := by decide +kernel
theorem dL_law_654 : decode mL_law.cd 654 = .ok (.iconst 0, 1) := by decide +kernel
theorem dL_law_655 : decode mL_law.cd 655 = .ok (.ireturn, 1) := by decide +kernel
theorem dL_law_656 : decode mL_law.cd 656 = .ok (.goto 1115, 3) := by decide +kernel
theorem dL_law_659 : decode mL_law.cd 659 = .ok (.aload_n 1, 1) := by decide +kernel
theorem dL_law_660 : decode mL_law.cd 660 = .ok (.aload_n 0, 1) := by decide +kernel
theorem dL_law_661 : decode mL_law.cd 661 = .ok (.iload 4, 2) := by decide +kernel
theorem dL_law_663 : decode mL_law.cd 663 = .ok (.iconst 1, 1) := by decide +kernel
theorem dL_law_664 : decode mL_law.cd 664 = .ok (.iadd, 1) := by decide +kernel
theorem dL_law_665 : decode mL_law.cd 665 = .ok (.iaload, 1) := by decide +kernel
theorem dL_law_666 : decode mL_law.cd 666 = .ok (.aload_n 0, 1) := by decide +kernel
theorem dL_law_667 : decode mL_law.cd 667 = .ok (.iload 4, 2) := by decide +kernel
theorem dL_law_669 : decode mL_law.cd 669 = .ok (.iconst 2, 1) := by decide +kernel
theorem dL_law_670 : decode mL_law.cd 670 = .ok (.iadd, 1) := by decide +kernel
theorem dL_law_671 : decode mL_law.cd 671 = .ok (.iaload, 1) := by decide +kernel
theorem dL_law_672 : decode mL_law.cd 672 = .ok (.aload_n 0, 1) := by decide +kernel
theorem dL_law_673 : decode mL_law.cd 673 = .ok (.iload 4, 2) := by decide +kernel
theorem dL_law_675 : decode mL_law.cd 675 = .ok (.iconst 3, 1) := by decide +kernel
theorem dL_law_676 : decode mL_law.cd 676 = .ok (.iadd, 1) := by decide +kernel
theorem dL_law_677 : decode mL_law.cd 677 = .ok (.iaload, 1) := by decide +kernel
theorem dL_law_678 : decode mL_law.cd 678 = .ok (.aload_n 0, 1) := by decide +kernel
theorem dL_law_679 : decode mL_law.cd 679 = .ok (.iload 4, 2) := by decide +kernel
theorem dL_law_681 : decode mL_law.cd 681 = .ok (.iconst 4, 1) := by decide +kernel
theorem dL_law_682 : decode mL_law.cd 682 = .ok (.iadd, 1) := by decide +kernel
theorem dL_law_683 : decode mL_law.cd 683 = .ok (.iaload, 1) := by decide +kernel
theorem dL_law_684 : decode mL_law.cd 684 = .ok (.aload_n 3, 1) := by decide +kernel
theorem dL_law_685 : decode mL_law.cd 685 = .ok (.invokestatic 125, 3) := by decide +kernel
theorem dL_law_688 : decode mL_law.cd 688 = .ok (.istore 5, 2) := by decide +kernel
theorem dL_law_690 : decode mL_law.cd 690 = .ok (.aload_n 2, 1) := by decide +kernel
theorem dL_law_691 : decode mL_law.cd 691 = .ok (.aload_n 0, 1) := by decide +kernel
theorem dL_law_692 : decode mL_law.cd 692 = .ok (.iload 4, 2) := by decide +kernel
theorem dL_law_694 : decode mL_law.cd 694 = .ok (.iconst 1, 1) := by decide +kernel
theorem dL_law_695 : decode mL_law.cd 695 = .ok (.iadd, 1) := by decide +kernel
theorem dL_law_696 : decode mL_law.cd 696 = .ok (.iaload, 1) := by decide +kernel
theorem dL_law_697 : decode mL_law.cd 697 = .ok (.aload_n 0, 1) := by decide +kernel
theorem dL_law_698 : decode mL_law.cd 698 = .ok (.iload 4, 2) := by decide +kernel
theorem dL_law_700 : decode mL_law.cd 700 = .ok (.iconst 2, 1) := by decide +kernel
theorem dL_law_701 : decode mL_law.cd 701 = .ok (.iadd, 1) := by decide +kernel
theorem dL_law_702 : decode mL_law.cd 702 = .ok (.iaload, 1) := by decide +kernel
theorem dL_law_703 : decode mL_law.cd 703 = .ok (.aload_n 0, 1) := by decide +kernel
theorem dL_law_704 : decode mL_law.cd 704 = .ok (.iload 4, 2) := by decide +kernel
theorem dL_law_706 : decode mL_law.cd 706 = .ok (.iconst 3, 1) := by decide +kernel
theorem dL_law_707 : decode mL_law.cd 707 = .ok (.iadd, 1) := by decide +kernel
theorem dL_law_708 : decode mL_law.cd 708 = .ok (.iaload, 1) := by decide +kernel
theorem dL_law_709 : decode mL_law.cd 709 = .ok (.aload_n 0, 1) := by decide +kernel
theorem dL_law_710 : decode mL_law.cd 710 = .ok (.iload 4, 2) := by decide +kernel
theorem dL_law_712 : decode mL_law.cd 712 = .ok (.iconst 4, 1) := by decide +kernel
theorem dL_law_713 : decode mL_law.cd 713 = .ok (.iadd, 1) := by decide +kernel
theorem dL_law_714 : decode mL_law.cd 714 = .ok (.iaload, 1) := by decide +kernel
theorem dL_law_715 : decode mL_law.cd 715 = .ok (.invokevirtual 128, 3) := by decide +kernel
theorem dL_law_718 : decode mL_law.cd 718 = .ok (.istore 6, 2) := by decide +kernel
theorem dL_law_720 : decode mL_law.cd 720 = .ok (.aload_n 2, 1) := by decide +kernel
theorem dL_law_721 : decode mL_law.cd 721 = .ok (.invokevirtual 96, 3) := by decide +kernel
theorem dL_law_724 : decode mL_law.cd 724 = .ok (.iload 5, 2) := by decide +kernel
theorem dL_law_726 : decode mL_law.cd 726 = .ok (.if_icmp .eq 5, 3) := by decide +kernel
theorem dL_law_729 : decode mL_law.cd 729 = .ok (.iconst 0, 1) := by decide +kernel
theorem dL_law_730 : decode mL_law.cd 730 = .ok (.ireturn, 1) := by decide +kernel
theorem dL_law_731 : decode mL_law.cd 731 = .ok (.iload 5, 2) := by decide +kernel
theorem dL_law_733 : decode mL_law.cd 733 = .ok (.ifCond .ne 15, 3) := by decide +kernel
theorem dL_law_736 : decode mL_law.cd 736 = .ok (.aload_n 3, 1) := by decide +kernel
theorem dL_law_737 : decode mL_law.cd 737 = .ok (.iconst 0, 1) := by decide +kernel
theorem dL_law_738 : decode mL_law.cd 738 = .ok (.laload, 1) := by decide +kernel
theorem dL_law_739 : decode mL_law.cd 739 = .ok (.iload 6, 2) := by decide +kernel
theorem dL_law_741 : decode mL_law.cd 741 = .ok (.i2l, 1) := by decide +kernel
theorem dL_law_742 : decode mL_law.cd 742 = .ok (.lcmp, 1) := by decide +kernel
theorem dL_law_743 : decode mL_law.cd 743 = .ok (.ifCond .eq 5, 3) := by decide +kernel
theorem dL_law_746 : decode mL_law.cd 746 = .ok (.iconst 0, 1) := by decide +kernel
theorem dL_law_747 : decode mL_law.cd 747 = .ok (.ireturn, 1) := by decide +kernel
theorem dL_law_748 : decode mL_law.cd 748 = .ok (.goto 1023, 3) := by decide +kernel
theorem dL_law_751 : decode mL_law.cd 751 = .ok (.aload_n 1, 1) := by decide +kernel
theorem dL_law_752 : decode mL_law.cd 752 = .ok (.aload_n 0, 1) := by decide +kernel
theorem dL_law_753 : decode mL_law.cd 753 = .ok (.iload 4, 2) := by decide +kernel
theorem dL_law_755 : decode mL_law.cd 755 = .ok (.iconst 1, 1) := by decide +kernel
theorem dL_law_756 : decode mL_law.cd 756 = .ok (.iadd, 1) := by decide +kernel
theorem dL_law_757 : decode mL_law.cd 757 = .ok (.iaload, 1) := by decide +kernel
theorem dL_law_758 : decode mL_law.cd 758 = .ok (.aload_n 0, 1) := by decide +kernel
theorem dL_law_759 : decode mL_law.cd 759 = .ok (.iload 4, 2) := by decide +kernel
theorem dL_law_761 : decode mL_law.cd 761 = .ok (.iconst 2, 1) := by decide +kernel
theorem dL_law_762 : decode mL_law.cd 762 = .ok (.iadd, 1) := by decide +kernel
theorem dL_law_763 : decode mL_law.cd 763 = .ok (.iaload, 1) := by decide +kernel
theorem dL_law_764 : decode mL_law.cd 764 = .ok (.aload_n 3, 1) := by decide +kernel
theorem dL_law_765 : decode mL_law.cd 765 = .ok (.invokestatic 129, 3) := by decide +kernel
theorem dL_law_768 : decode mL_law.cd 768 = .ok (.istore 5, 2) := by decide +kernel
theorem dL_law_770 : decode mL_law.cd 770 = .ok (.aload_n 2, 1) := by decide +kernel
theorem dL_law_771 : decode mL_law.cd 771 = .ok (.aload_n 0, 1) := by decide +kernel
theorem dL_law_772 : decode mL_law.cd 772 = .ok (.iload 4, 2) := by decide +kernel
theorem dL_law_774 : decode mL_law.cd 774 = .ok (.iconst 1, 1) := by decide +kernel
theorem dL_law_775 : decode mL_law.cd 775 = .ok (.iadd, 1) := by decide +kernel
theorem dL_law_776 : decode mL_law.cd 776 = .ok (.iaload, 1) := by decide +kernel
theorem dL_law_777 : decode mL_law.cd 777 = .ok (.aload_n 0, 1) := by decide +kernel
theorem dL_law_778 : decode mL_law.cd 778 = .ok (.iload 4, 2) := by decide +kernel
theorem dL_law_780 : decode mL_law.cd 780 = .ok (.iconst 2, 1) := by decide +kernel
theorem dL_law_781 : decode mL_law.cd 781 = .ok (.iadd, 1) := by decide +kernel
theorem dL_law_782 : decode mL_law.cd 782 = .ok (.iaload, 1) := by decide +kernel
theorem dL_law_783 : decode mL_law.cd 783 = .ok (.invokevirtual 131, 3) := by decide +kernel
theorem dL_law_786 : decode mL_law.cd 786 = .ok (.istore 6, 2) := by decide +kernel
theorem dL_law_788 : decode mL_law.cd 788 = .ok (.aload_n 2, 1) := by decide +kernel
theorem dL_law_789 : decode mL_law.cd 789 = .ok (.invokevirtual 96, 3) := by decide +kernel
theorem dL_law_792 : decode mL_law.cd 792 = .ok (.iload 5, 2) := by decide +kernel
theorem dL_law_794 : decode mL_law.cd 794 = .ok (.if_icmp .eq 5, 3) := by decide +kernel
theorem dL_law_797 : decode mL_law.cd 797 = .ok (.iconst 0, 1) := by decide +kernel
theorem dL_law_798 : decode mL_law.cd 798 = .ok (.ireturn, 1) := by decide +kernel
theorem dL_law_799 : decode mL_law.cd 799 = .ok (.iload 5, 2) := by decide +kernel
theorem dL_law_801 : decode mL_law.cd 801 = .ok (.ifCond .ne 15, 3) := by decide +kernel
theorem dL_law_804 : decode mL_law.cd 804 = .ok (.aload_n 3, 1) := by decide +kernel
theorem dL_law_805 : decode mL_law.cd 805 = .ok (.iconst 0, 1) := by decide +kernel
theorem dL_law_806 : decode mL_law.cd 806 = .ok (.laload, 1) := by decide +kernel
theorem dL_law_807 : decode mL_law.cd 807 = .ok (.iload 6, 2) := by decide +kernel
theorem dL_law_809 : decode mL_law.cd 809 = .ok (.i2l, 1) := by decide +kernel
theorem dL_law_810 : decode mL_law.cd 810 = .ok (.lcmp, 1) := by decide +kernel
theorem dL_law_811 : decode mL_law.cd 811 = .ok (.ifCond .eq 5, 3) := by decide +kernel
theorem dL_law_814 : decode mL_law.cd 814 = .ok (.iconst 0, 1) := by decide +kernel
theorem dL_law_815 : decode mL_law.cd 815 = .ok (.ireturn, 1) := by decide +kernel
theorem dL_law_816 : decode mL_law.cd 816 = .ok (.goto 955, 3) := by decide +kernel
theorem dL_law_819 : decode mL_law.cd 819 = .ok (.aload_n 1, 1) := by decide +kernel
theorem dL_law_820 : decode mL_law.cd 820 = .ok (.aload_n 0, 1) := by decide +kernel
theorem dL_law_821 : decode mL_law.cd 821 = .ok (.iload 4, 2) := by decide +kernel
theorem dL_law_823 : decode mL_law.cd 823 = .ok (.iconst 1, 1) := by decide +kernel
theorem dL_law_824 : decode mL_law.cd 824 = .ok (.iadd, 1) := by decide +kernel
theorem dL_law_825 : decode mL_law.cd 825 = .ok (.iaload, 1) := by decide +kernel
theorem dL_law_826 : decode mL_law.cd 826 = .ok (.aload_n 0, 1) := by decide +kernel
theorem dL_law_827 : decode mL_law.cd 827 = .ok (.iload 4, 2) := by decide +kernel
theorem dL_law_829 : decode mL_law.cd 829 = .ok (.iconst 2, 1) := by decide +kernel
theorem dL_law_830 : decode mL_law.cd 830 = .ok (.iadd, 1) := by decide +kernel
theorem dL_law_831 : decode mL_law.cd 831 = .ok (.iaload, 1) := by decide +kernel
theorem dL_law_832 : decode mL_law.cd 832 = .ok (.aload_n 0, 1) := by decide +kernel
theorem dL_law_833 : decode mL_law.cd 833 = .ok (.iload 4, 2) := by decide +kernel
theorem dL_law_835 : decode mL_law.cd 835 = .ok (.iconst 3, 1) := by decide +kernel
theorem dL_law_836 : decode mL_law.cd 836 = .ok (.iadd, 1) := by decide +kernel
theorem dL_law_837 : decode mL_law.cd 837 = .ok (.iaload, 1) := by decide +kernel
theorem dL_law_838 : decode mL_law.cd 838 = .ok (.aload_n 3, 1) := by decide +kernel
theorem dL_law_839 : decode mL_law.cd 839 = .ok (.invokestatic 132, 3) := by decide +kernel
theorem dL_law_842 : decode mL_law.cd 842 = .ok (.istore 5, 2) := by decide +kernel
theorem dL_law_844 : decode mL_law.cd 844 = .ok (.aload_n 2, 1) := by decide +kernel
theorem dL_law_845 : decode mL_law.cd 845 = .ok (.aload_n 0, 1) := by decide +kernel
theorem dL_law_846 : decode mL_law.cd 846 = .ok (.iload 4, 2) := by decide +kernel
theorem dL_law_848 : decode mL_law.cd 848 = .ok (.iconst 1, 1) := by decide +kernel
theorem dL_law_849 : decode mL_law.cd 849 = .ok (.iadd, 1) := by decide +kernel
theorem dL_law_850 : decode mL_law.cd 850 = .ok (.iaload, 1) := by decide +kernel
theorem dL_law_851 : decode mL_law.cd 851 = .ok (.aload_n 0, 1) := by decide +kernel
theorem dL_law_852 : decode mL_law.cd 852 = .ok (.iload 4, 2) := by decide +kernel
theorem dL_law_854 : decode mL_law.cd 854 = .ok (.iconst 2, 1) := by decide +kernel
theorem dL_law_855 : decode mL_law.cd 855 = .ok (.iadd, 1) := by decide +kernel
theorem dL_law_856 : decode mL_law.cd 856 = .ok (.iaload, 1) := by decide +kernel
theorem dL_law_857 : decode mL_law.cd 857 = .ok (.aload_n 0, 1) := by decide +kernel
theorem dL_law_858 : decode mL_law.cd 858 = .ok (.iload 4, 2) := by decide +kernel
theorem dL_law_860 : decode mL_law.cd 860 = .ok (.iconst 3, 1) := by decide +kernel
theorem dL_law_861 : decode mL_law.cd 861 = .ok (.iadd, 1) := by decide +kernel
theorem dL_law_862 : decode mL_law.cd 862 = .ok (.iaload, 1) := by decide +kernel
theorem dL_law_863 : decode mL_law.cd 863 = .ok (.invokevirtual 134, 3) := by decide +kernel
theorem dL_law_866 : decode mL_law.cd 866 = .ok (.istore 6, 2) := by decide +kernel
theorem dL_law_868 : decode mL_law.cd 868 = .ok (.aload_n 2, 1) := by decide +kernel
theorem dL_law_869 : decode mL_law.cd 869 = .ok (.invokevirtual 96, 3) := by decide +kernel
theorem dL_law_872 : decode mL_law.cd 872 = .ok (.iload 5, 2) := by decide +kernel
theorem dL_law_874 : decode mL_law.cd 874 = .ok (.if_icmp .eq 5, 3) := by decide +kernel
theorem dL_law_877 : decode mL_law.cd 877 = .ok (.iconst 0, 1) := by decide +kernel
theorem dL_law_878 : decode mL_law.cd 878 = .ok (.ireturn, 1) := by decide +kernel
theorem dL_law_879 : decode mL_law.cd 879 = .ok (.iload 5, 2) := by decide +kernel
theorem dL_law_881 : decode mL_law.cd 881 = .ok (.ifCond .ne 15, 3) := by decide +kernel
theorem dL_law_884 : decode mL_law.cd 884 = .ok (.aload_n 3, 1) := by decide +kernel
theorem dL_law_885 : decode mL_law.cd 885 = .ok (.iconst 0, 1) := by decide +kernel
theorem dL_law_886 : decode mL_law.cd 886 = .ok (.laload, 1) := by decide +kernel
theorem dL_law_887 : decode mL_law.cd 887 = .ok (.iload 6, 2) := by decide +kernel
theorem dL_law_889 : decode mL_law.cd 889 = .ok (.i2l, 1) := by decide +kernel
theorem dL_law_890 : decode mL_law.cd 890 = .ok (.lcmp, 1) := by decide +kernel
theorem dL_law_891 : decode mL_law.cd 891 = .ok (.ifCond .eq 5, 3) := by decide +kernel
theorem dL_law_894 : decode mL_law.cd 894 = .ok (.iconst 0, 1) := by decide +kernel
theorem dL_law_895 : decode mL_law.cd 895 = .ok (.ireturn, 1) := by decide +kernel
theorem dL_law_896 : decode mL_law.cd 896 = .ok (.goto 875, 3) := by decide +kernel
theorem dL_law_899 : decode mL_law.cd 899 = .ok (.aload_n 1, 1) := by decide +kernel
theorem dL_law_900 : decode mL_law.cd 900 = .ok (.aload_n 0, 1) := by decide +kernel
theorem dL_law_901 : decode mL_law.cd 901 = .ok (.iload 4, 2) := by decide +kernel
theorem dL_law_903 : decode mL_law.cd 903 = .ok (.iconst 1, 1) := by decide +kernel
theorem dL_law_904 : decode mL_law.cd 904 = .ok (.iadd, 1) := by decide +kernel
theorem dL_law_905 : decode mL_law.cd 905 = .ok (.iaload, 1) := by decide +kernel
theorem dL_law_906 : decode mL_law.cd 906 = .ok (.aload_n 0, 1) := by decide +kernel
theorem dL_law_907 : decode mL_law.cd 907 = .ok (.iload 4, 2) := by decide +kernel
theorem dL_law_909 : decode mL_law.cd 909 = .ok (.iconst 2, 1) := by decide +kernel
theorem dL_law_910 : decode mL_law.cd 910 = .ok (.iadd, 1) := by decide +kernel
theorem dL_law_911 : decode mL_law.cd 911 = .ok (.iaload, 1) := by decide +kernel
theorem dL_law_912 : decode mL_law.cd 912 = .ok (.aload_n 3, 1) := by decide +kernel
theorem dL_law_913 : decode mL_law.cd 913 = .ok (.invokestatic 135, 3) := by decide +kernel
theorem dL_law_916 : decode mL_law.cd 916 = .ok (.istore 5, 2) := by decide +kernel
theorem dL_law_918 : decode mL_law.cd 918 = .ok (.aload_n 2, 1) := by decide +kernel
theorem dL_law_919 : decode mL_law.cd 919 = .ok (.aload_n 0, 1) := by decide +kernel
theorem dL_law_920 : decode mL_law.cd 920 = .ok (.iload 4, 2) := by decide +kernel
theorem dL_law_922 : decode mL_law.cd 922 = .ok (.iconst 1, 1) := by decide +kernel
theorem dL_law_923 : decode mL_law.cd 923 = .ok (.iadd, 1) := by decide +kernel
theorem dL_law_924 : decode mL_law.cd 924 = .ok (.iaload, 1) := by decide +kernel
theorem dL_law_925 : decode mL_law.cd 925 = .ok (.aload_n 0, 1) := by decide +kernel
theorem dL_law_926 : decode mL_law.cd 926 = .ok (.iload 4, 2) := by decide +kernel
theorem dL_law_928 : decode mL_law.cd 928 = .ok (.iconst 2, 1) := by decide +kernel
theorem dL_law_929 : decode mL_law.cd 929 = .ok (.iadd, 1) := by decide +kernel
theorem dL_law_930 : decode mL_law.cd 930 = .ok (.iaload, 1) := by decide +kernel
theorem dL_law_931 : decode mL_law.cd 931 = .ok (.invokevirtual 137, 3) := by decide +kernel
theorem dL_law_934 : decode mL_law.cd 934 = .ok (.istore 6, 2) := by decide +kernel
theorem dL_law_936 : decode mL_law.cd 936 = .ok (.aload_n 2, 1) := by decide +kernel
theorem dL_law_937 : decode mL_law.cd 937 = .ok (.invokevirtual 96, 3) := by decide +kernel
theorem dL_law_940 : decode mL_law.cd 940 = .ok (.iload 5, 2) := by decide +kernel
theorem dL_law_942 : decode mL_law.cd 942 = .ok (.if_icmp .eq 5, 3) := by decide +kernel
theorem dL_law_945 : decode mL_law.cd 945 = .ok (.iconst 0, 1) := by decide +kernel
theorem dL_law_946 : decode mL_law.cd 946 = .ok (.ireturn, 1) := by decide +kernel
theorem dL_law_947 : decode mL_law.cd 947 = .ok (.iload 5, 2) := by decide +kernel
theorem dL_law_949 : decode mL_law.cd 949 = .ok (.ifCond .ne 15, 3) := by decide +kernel
theorem dL_law_952 : decode mL_law.cd 952 = .ok (.aload_n 3, 1) := by decide +kernel
theorem dL_law_953 : decode mL_law.cd 953 = .ok (.iconst 0, 1) := by decide +kernel
theorem dL_law_954 : decode mL_law.cd 954 = .ok (.laload, 1) := by decide +kernel
theorem dL_law_955 : decode mL_law.cd 955 = .ok (.iload 6, 2) := by decide +kernel
theorem dL_law_957 : decode mL_law.cd 957 = .ok (.i2l, 1) := by decide +kernel
theorem dL_law_958 : decode mL_law.cd 958 = .ok (.lcmp, 1) := by decide +kernel
theorem dL_law_959 : decode mL_law.cd 959 = .ok (.ifCond .eq 5, 3) := by decide +kernel
theorem dL_law_962 : decode mL_law.cd 962 = .ok (.iconst 0, 1) := by decide +kernel
theorem dL_law_963 : decode mL_law.cd 963 = .ok (.ireturn, 1) := by decide +kernel
theorem dL_law_964 : decode mL_law.cd 964 = .ok (.goto 807, 3) := by decide +kernel
theorem dL_law_967 : decode mL_law.cd 967 = .ok (.aload_n 1, 1) := by decide +kernel
theorem dL_law_968 : decode mL_law.cd 968 = .ok (.aload_n 0, 1) := by decide +kernel
theorem dL_law_969 : decode mL_law.cd 969 = .ok (.iload 4, 2) := by decide +kernel
theorem dL_law_971 : decode mL_law.cd 971 = .ok (.iconst 1, 1) := by decide +kernel
theorem dL_law_972 : decode mL_law.cd 972 = .ok (.iadd, 1) := by decide +kernel
theorem dL_law_973 : decode mL_law.cd 973 = .ok (.iaload, 1) := by decide +kernel
theorem dL_law_974 : decode mL_law.cd 974 = .ok (.aload_n 0, 1) := by decide +kernel
theorem dL_law_975 : decode mL_law.cd 975 = .ok (.iload 4, 2) := by decide +kernel
theorem dL_law_977 : decode mL_law.cd 977 = .ok (.iconst 2, 1) := by decide +kernel
theorem dL_law_978 : decode mL_law.cd 978 = .ok (.iadd, 1) := by decide +kernel
theorem dL_law_979 : decode mL_law.cd 979 = .ok (.iaload, 1) := by decide +kernel
theorem dL_law_980 : decode mL_law.cd 980 = .ok (.aload_n 3, 1) := by decide +kernel
theorem dL_law_981 : decode mL_law.cd 981 = .ok (.invokestatic 138, 3) := by decide +kernel
theorem dL_law_984 : decode mL_law.cd 984 = .ok (.istore 5, 2) := by decide +kernel
theorem dL_law_986 : decode mL_law.cd 986 = .ok (.aload_n 2, 1) := by decide +kernel
theorem dL_law_987 : decode mL_law.cd 987 = .ok (.aload_n 0, 1) := by decide +kernel
theorem dL_law_988 : decode mL_law.cd 988 = .ok (.iload 4, 2) := by decide +kernel
theorem dL_law_990 : decode mL_law.cd 990 = .ok (.iconst 1, 1) := by decide +kernel
theorem dL_law_991 : decode mL_law.cd 991 = .ok (.iadd, 1) := by decide +kernel
theorem dL_law_992 : decode mL_law.cd 992 = .ok (.iaload, 1) := by decide +kernel
theorem dL_law_993 : decode mL_law.cd 993 = .ok (.aload_n 0, 1) := by decide +kernel
theorem dL_law_994 : decode mL_law.cd 994 = .ok (.iload 4, 2) := by decide +kernel
theorem dL_law_996 : decode mL_law.cd 996 = .ok (.iconst 2, 1) := by decide +kernel
theorem dL_law_997 : decode mL_law.cd 997 = .ok (.iadd, 1) := by decide +kernel
theorem dL_law_998 : decode mL_law.cd 998 = .ok (.iaload, 1) := by decide +kernel
theorem dL_law_999 : decode mL_law.cd 999 = .ok (.invokevirtual 140, 3) := by decide +kernel
theorem dL_law_1002 : decode mL_law.cd 1002 = .ok (.istore 6, 2) := by decide +kernel
theorem dL_law_1004 : decode mL_law.cd 1004 = .ok (.aload_n 2, 1) := by decide +kernel
theorem dL_law_1005 : decode mL_law.cd 1005 = .ok (.invokevirtual 96, 3) := by decide +kernel
theorem dL_law_1008 : decode mL_law.cd 1008 = .ok (.iload 5, 2) := by decide +kernel
theorem dL_law_1010 : decode mL_law.cd 1010 = .ok (.if_icmp .eq 5, 3) := by decide +kernel
theorem dL_law_1013 : decode mL_law.cd 1013 = .ok (.iconst 0, 1) := by decide +kernel
theorem dL_law_1014 : decode mL_law.cd 1014 = .ok (.ireturn, 1) := by decide +kernel
theorem dL_law_1015 : decode mL_law.cd 1015 = .ok (.iload 5, 2) := by decide +kernel
theorem dL_law_1017 : decode mL_law.cd 1017 = .ok (.ifCond .ne 15, 3) := by decide +kernel
theorem dL_law_1020 : decode mL_law.cd 1020 = .ok (.aload_n 3, 1) := by decide +kernel
theorem dL_law_1021 : decode mL_law.cd 1021 = .ok (.iconst 0, 1) := by decide +kernel
theorem dL_law_1022 : decode mL_law.cd 1022 = .ok (.laload, 1) := by decide +kernel
theorem dL_law_1023 : decode mL_law.cd 1023 = .ok (.iload 6, 2) := by decide +kernel
theorem dL_law_1025 : decode mL_law.cd 1025 = .ok (.i2l, 1) := by decide +kernel
theorem dL_law_1026 : decode mL_law.cd 1026 = .ok (.lcmp, 1) := by decide +kernel
theorem dL_law_1027 : decode mL_law.cd 1027 = .ok (.ifCond .eq 5, 3) := by decide +kernel
theorem dL_law_1030 : decode mL_law.cd 1030 = .ok (.iconst 0, 1) := by decide +kernel
theorem dL_law_1031 : decode mL_law.cd 1031 = .ok (.ireturn, 1) := by decide +kernel
theorem dL_law_1032 : decode mL_law.cd 1032 = .ok (.goto 739, 3) := by decide +kernel
theorem dL_law_1035 : decode mL_law.cd 1035 = .ok (.aload_n 1, 1) := by decide +kernel
theorem dL_law_1036 : decode mL_law.cd 1036 = .ok (.aload_n 0, 1) := by decide +kernel
theorem dL_law_1037 : decode mL_law.cd 1037 = .ok (.iload 4, 2) := by decide +kernel
theorem dL_law_1039 : decode mL_law.cd 1039 = .ok (.iconst 1, 1) := by decide +kernel
theorem dL_law_1040 : decode mL_law.cd 1040 = .ok (.iadd, 1) := by decide +kernel
theorem dL_law_1041 : decode mL_law.cd 1041 = .ok (.iaload, 1) := by decide +kernel
theorem dL_law_1042 : decode mL_law.cd 1042 = .ok (.aload_n 3, 1) := by decide +kernel
theorem dL_law_1043 : decode mL_law.cd 1043 = .ok (.invokestatic 141, 3) := by decide +kernel
theorem dL_law_1046 : decode mL_law.cd 1046 = .ok (.istore 5, 2) := by decide +kernel
theorem dL_law_1048 : decode mL_law.cd 1048 = .ok (.aload_n 2, 1) := by decide +kernel
theorem dL_law_1049 : decode mL_law.cd 1049 = .ok (.aload_n 0, 1) := by decide +kernel
theorem dL_law_1050 : decode mL_law.cd 1050 = .ok (.iload 4, 2) := by decide +kernel
theorem dL_law_1052 : decode mL_law.cd 1052 = .ok (.iconst 1, 1) := by decide +kernel
theorem dL_law_1053 : decode mL_law.cd 1053 = .ok (.iadd, 1) := by decide +kernel
theorem dL_law_1054 : decode mL_law.cd 1054 = .ok (.iaload, 1) := by decide +kernel
theorem dL_law_1055 : decode mL_law.cd 1055 = .ok (.invokevirtual 143, 3) := by decide +kernel
theorem dL_law_1058 : decode mL_law.cd 1058 = .ok (.istore 6, 2) := by decide +kernel
theorem dL_law_1060 : decode mL_law.cd 1060 = .ok (.aload_n 2, 1) := by decide +kernel
theorem dL_law_1061 : decode mL_law.cd 1061 = .ok (.invokevirtual 96, 3) := by decide +kernel
theorem dL_law_1064 : decode mL_law.cd 1064 = .ok (.iload 5, 2) := by decide +kernel
theorem dL_law_1066 : decode mL_law.cd 1066 = .ok (.if_icmp .eq 5, 3) := by decide +kernel
theorem dL_law_1069 : decode mL_law.cd 1069 = .ok (.iconst 0, 1) := by decide +kernel
theorem dL_law_1070 : decode mL_law.cd 1070 = .ok (.ireturn, 1) := by decide +kernel
theorem dL_law_1071 : decode mL_law.cd 1071 = .ok (.iload 5, 2) := by decide +kernel
theorem dL_law_1073 : decode mL_law.cd 1073 = .ok (.ifCond .ne 15, 3) := by decide +kernel
theorem dL_law_1076 : decode mL_law.cd 1076 = .ok (.aload_n 3, 1) := by decide +kernel
theorem dL_law_1077 : decode mL_law.cd 1077 = .ok (.iconst 0, 1) := by decide +kernel
theorem dL_law_1078 : decode mL_law.cd 1078 = .ok (.laload, 1) := by decide +kernel
theorem dL_law_1079 : decode mL_law.cd 1079 = .ok (.iload 6, 2) := by decide +kernel
theorem dL_law_1081 : decode mL_law.cd 1081 = .ok (.i2l, 1) := by decide +kernel
theorem dL_law_1082 : decode mL_law.cd 1082 = .ok (.lcmp, 1) := by decide +kernel
theorem dL_law_1083 : decode mL_law.cd 1083 = .ok (.ifCond .eq 5, 3) := by decide +kernel
theorem dL_law_1086 : decode mL_law.cd 1086 = .ok (.iconst 0, 1) := by decide +kernel
theorem dL_law_1087 : decode mL_law.cd 1087 = .ok (.ireturn, 1) := by decide +kernel
theorem dL_law_1088 : decode mL_law.cd 1088 = .ok (.goto 683, 3) := by decide +kernel
theorem dL_law_1091 : decode mL_law.cd 1091 = .ok (.aload_n 1, 1) := by decide +kernel
theorem dL_law_1092 : decode mL_law.cd 1092 = .ok (.aload_n 0, 1) := by decide +kernel
theorem dL_law_1093 : decode mL_law.cd 1093 = .ok (.iload 4, 2) := by decide +kernel
theorem dL_law_1095 : decode mL_law.cd 1095 = .ok (.iconst 1, 1) := by decide +kernel
theorem dL_law_1096 : decode mL_law.cd 1096 = .ok (.iadd, 1) := by decide +kernel
theorem dL_law_1097 : decode mL_law.cd 1097 = .ok (.iaload, 1) := by decide +kernel
theorem dL_law_1098 : decode mL_law.cd 1098 = .ok (.aload_n 0, 1) := by decide +kernel
theorem dL_law_1099 : decode mL_law.cd 1099 = .ok (.iload 4, 2) := by decide +kernel
theorem dL_law_1101 : decode mL_law.cd 1101 = .ok (.iconst 2, 1) := by decide +kernel
theorem dL_law_1102 : decode mL_law.cd 1102 = .ok (.iadd, 1) := by decide +kernel
theorem dL_law_1103 : decode mL_law.cd 1103 = .ok (.iaload, 1) := by decide +kernel
theorem dL_law_1104 : decode mL_law.cd 1104 = .ok (.aload_n 3, 1) := by decide +kernel
theorem dL_law_1105 : decode mL_law.cd 1105 = .ok (.invokestatic 144, 3) := by decide +kernel
theorem dL_law_1108 : decode mL_law.cd 1108 = .ok (.istore 5, 2) := by decide +kernel
theorem dL_law_1110 : decode mL_law.cd 1110 = .ok (.aload_n 2, 1) := by decide +kernel
theorem dL_law_1111 : decode mL_law.cd 1111 = .ok (.aload_n 0, 1) := by decide +kernel
theorem dL_law_1112 : decode mL_law.cd 1112 = .ok (.iload 4, 2) := by decide +kernel
theorem dL_law_1114 : decode mL_law.cd 1114 = .ok (.iconst 1, 1) := by decide +kernel
theorem dL_law_1115 : decode mL_law.cd 1115 = .ok (.iadd, 1) := by decide +kernel
theorem dL_law_1116 : decode mL_law.cd 1116 = .ok (.iaload, 1) := by decide +kernel
theorem dL_law_1117 : decode mL_law.cd 1117 = .ok (.aload_n 0, 1) := by decide +kernel
theorem dL_law_1118 : decode mL_law.cd 1118 = .ok (.iload 4, 2) := by decide +kernel
theorem dL_law_1120 : decode mL_law.cd 1120 = .ok (.iconst 2, 1) := by decide +kernel
theorem dL_law_1121 : decode mL_law.cd 1121 = .ok (.iadd, 1) := by decide +kernel
theorem dL_law_1122 : decode mL_law.cd 1122 = .ok (.iaload, 1) := by decide +kernel
theorem dL_law_1123 : decode mL_law.cd 1123 = .ok (.invokevirtual 146, 3) := by decide +kernel
theorem dL_law_1126 : decode mL_law.cd 1126 = .ok (.istore 6, 2) := by decide +kernel
theorem dL_law_1128 : decode mL_law.cd 1128 = .ok (.aload_n 2, 1) := by decide +kernel
theorem dL_law_1129 : decode mL_law.cd 1129 = .ok (.invokevirtual 96, 3) := by decide +kernel
theorem dL_law_1132 : decode mL_law.cd 1132 = .ok (.iload 5, 2) := by decide +kernel
theorem dL_law_1134 : decode mL_law.cd 1134 = .ok (.if_icmp .eq 5, 3) := by decide +kernel
theorem dL_law_1137 : decode mL_law.cd 1137 = .ok (.iconst 0, 1) := by decide +kernel
theorem dL_law_1138 : decode mL_law.cd 1138 = .ok (.ireturn, 1) := by decide +kernel
theorem dL_law_1139 : decode mL_law.cd 1139 = .ok (.iload 5, 2) := by decide +kernel
theorem dL_law_1141 : decode mL_law.cd 1141 = .ok (.ifCond .ne 15, 3) := by decide +kernel
theorem dL_law_1144 : decode mL_law.cd 1144 = .ok (.aload_n 3, 1) := by decide +kernel
theorem dL_law_1145 : decode mL_law.cd 1145 = .ok (.iconst 0, 1) := by decide +kernel
theorem dL_law_1146 : decode mL_law.cd 1146 = .ok (.laload, 1) := by decide +kernel
theorem dL_law_1147 : decode mL_law.cd 1147 = .ok (.iload 6, 2) := by decide +kernel
theorem dL_law_1149 : decode mL_law.cd 1149 = .ok (.i2l, 1) := by decide +kernel
theorem dL_law_1150 : decode mL_law.cd 1150 = .ok (.lcmp, 1) := by decide +kernel
theorem dL_law_1151 : decode mL_law.cd 1151 = .ok (.ifCond .eq 5, 3) := by decide +kernel
theorem dL_law_1154 : decode mL_law.cd 1154 = .ok (.iconst 0, 1) := by decide +kernel
theorem dL_law_1155 : decode mL_law.cd 1155 = .ok (.ireturn, 1) := by decide +kernel
theorem dL_law_1156 : decode mL_law.cd 1156 = .ok (.goto 615, 3) := by decide +kernel
theorem dL_law_1159 : decode mL_law.cd 1159 = .ok (.aload_n 1, 1) := by decide +kernel
theorem dL_law_1160 : decode mL_law.cd 1160 = .ok (.aload_n 0, 1) := by decide +kernel
theorem dL_law_1161 : decode mL_law.cd 1161 = .ok (.iload 4, 2) := by decide +kernel
theorem dL_law_1163 : decode mL_law.cd 1163 = .ok (.iconst 1, 1) := by decide +kernel
theorem dL_law_1164 : decode mL_law.cd 1164 = .ok (.iadd, 1) := by decide +kernel
theorem dL_law_1165 : decode mL_law.cd 1165 = .ok (.iaload, 1) := by decide +kernel
theorem dL_law_1166 : decode mL_law.cd 1166 = .ok (.aload_n 3, 1) := by decide +kernel
theorem dL_law_1167 : decode mL_law.cd 1167 = .ok (.invokestatic 147, 3) := by decide +kernel
theorem dL_law_1170 : decode mL_law.cd 1170 = .ok (.istore 5, 2) := by decide +kernel
theorem dL_law_1172 : decode mL_law.cd 1172 = .ok (.aload_n 2, 1) := by decide +kernel
theorem dL_law_1173 : decode mL_law.cd 1173 = .ok (.aload_n 0, 1) := by decide +kernel
theorem dL_law_1174 : decode mL_law.cd 1174 = .ok (.iload 4, 2) := by decide +kernel
theorem dL_law_1176 : decode mL_law.cd 1176 = .ok (.iconst 1, 1) := by decide +kernel
theorem dL_law_1177 : decode mL_law.cd 1177 = .ok (.iadd, 1) := by decide +kernel
theorem dL_law_1178 : decode mL_law.cd 1178 = .ok (.iaload, 1) := by decide +kernel
theorem dL_law_1179 : decode mL_law.cd 1179 = .ok (.invokevirtual 149, 3) := by decide +kernel
theorem dL_law_1182 : decode mL_law.cd 1182 = .ok (.istore 6, 2) := by decide +kernel
theorem dL_law_1184 : decode mL_law.cd 1184 = .ok (.aload_n 2, 1) := by decide +kernel
theorem dL_law_1185 : decode mL_law.cd 1185 = .ok (.invokevirtual 96, 3) := by decide +kernel
theorem dL_law_1188 : decode mL_law.cd 1188 = .ok (.iload 5, 2) := by decide +kernel
theorem dL_law_1190 : decode mL_law.cd 1190 = .ok (.if_icmp .eq 5, 3) := by decide +kernel
theorem dL_law_1193 : decode mL_law.cd 1193 = .ok (.iconst 0, 1) := by decide +kernel
theorem dL_law_1194 : decode mL_law.cd 1194 = .ok (.ireturn, 1) := by decide +kernel
theorem dL_law_1195 : decode mL_law.cd 1195 = .ok (.iload 5, 2) := by decide +kernel
theorem dL_law_1197 : decode mL_law.cd 1197 = .ok (.ifCond .ne 15, 3) := by decide +kernel
theorem dL_law_1200 : decode mL_law.cd 1200 = .ok (.aload_n 3, 1) := by decide +kernel
theorem dL_law_1201 : decode mL_law.cd 1201 = .ok (.iconst 0, 1) := by decide +kernel
theorem dL_law_1202 : decode mL_law.cd 1202 = .ok (.laload, 1) := by decide +kernel
theorem dL_law_1203 : decode mL_law.cd 1203 = .ok (.iload 6, 2) := by decide +kernel
theorem dL_law_1205 : decode mL_law.cd 1205 = .ok (.i2l, 1) := by decide +kernel
theorem dL_law_1206 : decode mL_law.cd 1206 = .ok (.lcmp, 1) := by decide +kernel
theorem dL_law_1207 : decode mL_law.cd 1207 = .ok (.ifCond .eq 5, 3) := by decide +kernel
theorem dL_law_1210 : decode mL_law.cd 1210 = .ok (.iconst 0, 1) := by decide +kernel
theorem dL_law_1211 : decode mL_law.cd 1211 = .ok (.ireturn, 1) := by decide +kernel
theorem dL_law_1212 : decode mL_law.cd 1212 = .ok (.goto 559, 3) := by decide +kernel
theorem dL_law_1215 : decode mL_law.cd 1215 = .ok (.aload_n 1, 1) := by decide +kernel
theorem dL_law_1216 : decode mL_law.cd 1216 = .ok (.aload_n 0, 1) := by decide +kernel
theorem dL_law_1217 : decode mL_law.cd 1217 = .ok (.iload 4, 2) := by decide +kernel
theorem dL_law_1219 : decode mL_law.cd 1219 = .ok (.iconst 1, 1) := by decide +kernel
theorem dL_law_1220 : decode mL_law.cd 1220 = .ok (.iadd, 1) := by decide +kernel
theorem dL_law_1221 : decode mL_law.cd 1221 = .ok (.iaload, 1) := by decide +kernel
theorem dL_law_1222 : decode mL_law.cd 1222 = .ok (.aload_n 3, 1) := by decide +kernel
theorem dL_law_1223 : decode mL_law.cd 1223 = .ok (.invokestatic 150, 3) := by decide +kernel
theorem dL_law_1226 : decode mL_law.cd 1226 = .ok (.istore 5, 2) := by decide +kernel
theorem dL_law_1228 : decode mL_law.cd 1228 = .ok (.aload_n 2, 1) := by decide +kernel
theorem dL_law_1229 : decode mL_law.cd 1229 = .ok (.aload_n 0, 1) := by decide +kernel
theorem dL_law_1230 : decode mL_law.cd 1230 = .ok (.iload 4, 2) := by decide +kernel
theorem dL_law_1232 : decode mL_law.cd 1232 = .ok (.iconst 1, 1) := by decide +kernel
theorem dL_law_1233 : decode mL_law.cd 1233 = .ok (.iadd, 1) := by decide +kernel
theorem dL_law_1234 : decode mL_law.cd 1234 = .ok (.iaload, 1) := by decide +kernel
theorem dL_law_1235 : decode mL_law.cd 1235 = .ok (.invokevirtual 152, 3) := by decide +kernel
theorem dL_law_1238 : decode mL_law.cd 1238 = .ok (.istore 6, 2) := by decide +kernel
theorem dL_law_1240 : decode mL_law.cd 1240 = .ok (.aload_n 2, 1) := by decide +kernel
theorem dL_law_1241 : decode mL_law.cd 1241 = .ok (.invokevirtual 96, 3) := by decide +kernel
theorem dL_law_1244 : decode mL_law.cd 1244 = .ok (.iload 5, 2) := by decide +kernel
theorem dL_law_1246 : decode mL_law.cd 1246 = .ok (.if_icmp .eq 5, 3) := by decide +kernel
theorem dL_law_1249 : decode mL_law.cd 1249 = .ok (.iconst 0, 1) := by decide +kernel
theorem dL_law_1250 : decode mL_law.cd 1250 = .ok (.ireturn, 1) := by decide +kernel
theorem dL_law_1251 : decode mL_law.cd 1251 = .ok (.iload 5, 2) := by decide +kernel
theorem dL_law_1253 : decode mL_law.cd 1253 = .ok (.ifCond .ne 15, 3) := by decide +kernel
theorem dL_law_1256 : decode mL_law.cd 1256 = .ok (.aload_n 3, 1) := by decide +kernel
theorem dL_law_1257 : decode mL_law.cd 1257 = .ok (.iconst 0, 1) := by decide +kernel
theorem dL_law_1258 : decode mL_law.cd 1258 = .ok (.laload, 1) := by decide +kernel
theorem dL_law_1259 : decode mL_law.cd 1259 = .ok (.iload 6, 2) := by decide +kernel
theorem dL_law_1261 : decode mL_law.cd 1261 = .ok (.i2l, 1) := by decide +kernel
theorem dL_law_1262 : decode mL_law.cd 1262 = .ok (.lcmp, 1) := by decide +kernel
theorem dL_law_1263 : decode mL_law.cd 1263 = .ok (.ifCond .eq 5, 3) := by decide +kernel
theorem dL_law_1266 : decode mL_law.cd 1266 = .ok (.iconst 0, 1) := by decide +kernel
theorem dL_law_1267 : decode mL_law.cd 1267 = .ok (.ireturn, 1) := by decide +kernel
theorem dL_law_1268 : decode mL_law.cd 1268 = .ok (.goto 503, 3) := by decide +kernel
theorem dL_law_1271 : decode mL_law.cd 1271 = .ok (.aload_n 1, 1) := by decide +kernel
theorem dL_law_1272 : decode mL_law.cd 1272 = .ok (.invokevirtual 153, 3) := by decide +kernel
theorem dL_law_1275 : decode mL_law.cd 1275 = .ok (.aload_n 2, 1) := by decide +kernel
theorem dL_law_1276 : decode mL_law.cd 1276 = .ok (.invokevirtual 156, 3) := by decide +kernel
theorem dL_law_1279 : decode mL_law.cd 1279 = .ok (.if_icmp .eq 492, 3) := by decide +kernel
theorem dL_law_1282 : decode mL_law.cd 1282 = .ok (.iconst 0, 1) := by decide +kernel
theorem dL_law_1283 : decode mL_law.cd 1283 = .ok (.ireturn, 1) := by decide +kernel
theorem dL_law_1284 : decode mL_law.cd 1284 = .ok (.aload_n 1, 1) := by decide +kernel
theorem dL_law_1285 : decode mL_law.cd 1285 = .ok (.aload_n 0, 1) := by decide +kernel
theorem dL_law_1286 : decode mL_law.cd 1286 = .ok (.iload 4, 2) := by decide +kernel
theorem dL_law_1288 : decode mL_law.cd 1288 = .ok (.iconst 1, 1) := by decide +kernel
theorem dL_law_1289 : decode mL_law.cd 1289 = .ok (.iadd, 1) := by decide +kernel
theorem dL_law_1290 : decode mL_law.cd 1290 = .ok (.iaload, 1) := by decide +kernel
theorem dL_law_1291 : decode mL_law.cd 1291 = .ok (.aload_n 0, 1) := by decide +kernel
theorem dL_law_1292 : decode mL_law.cd 1292 = .ok (.iload 4, 2) := by decide +kernel
theorem dL_law_1294 : decode mL_law.cd 1294 = .ok (.iconst 2, 1) := by decide +kernel
theorem dL_law_1295 : decode mL_law.cd 1295 = .ok (.iadd, 1) := by decide +kernel
theorem dL_law_1296 : decode mL_law.cd 1296 = .ok (.iaload, 1) := by decide +kernel
theorem dL_law_1297 : decode mL_law.cd 1297 = .ok (.aload_n 3, 1) := by decide +kernel
theorem dL_law_1298 : decode mL_law.cd 1298 = .ok (.invokestatic 157, 3) := by decide +kernel
theorem dL_law_1301 : decode mL_law.cd 1301 = .ok (.istore 5, 2) := by decide +kernel
theorem dL_law_1303 : decode mL_law.cd 1303 = .ok (.aload_n 2, 1) := by decide +kernel
theorem dL_law_1304 : decode mL_law.cd 1304 = .ok (.aload_n 0, 1) := by decide +kernel
theorem dL_law_1305 : decode mL_law.cd 1305 = .ok (.iload 4, 2) := by decide +kernel
theorem dL_law_1307 : decode mL_law.cd 1307 = .ok (.iconst 1, 1) := by decide +kernel
theorem dL_law_1308 : decode mL_law.cd 1308 = .ok (.iadd, 1) := by decide +kernel
theorem dL_law_1309 : decode mL_law.cd 1309 = .ok (.iaload, 1) := by decide +kernel
theorem dL_law_1310 : decode mL_law.cd 1310 = .ok (.aload_n 0, 1) := by decide +kernel
theorem dL_law_1311 : decode mL_law.cd 1311 = .ok (.iload 4, 2) := by decide +kernel
theorem dL_law_1313 : decode mL_law.cd 1313 = .ok (.iconst 2, 1) := by decide +kernel
theorem dL_law_1314 : decode mL_law.cd 1314 = .ok (.iadd, 1) := by decide +kernel
theorem dL_law_1315 : decode mL_law.cd 1315 = .ok (.iaload, 1) := by decide +kernel
theorem dL_law_1316 : decode mL_law.cd 1316 = .ok (.invokevirtual 159, 3) := by decide +kernel
theorem dL_law_1319 : decode mL_law.cd 1319 = .ok (.istore 6, 2) := by decide +kernel
theorem dL_law_1321 : decode mL_law.cd 1321 = .ok (.aload_n 2, 1) := by decide +kernel
theorem dL_law_1322 : decode mL_law.cd 1322 = .ok (.invokevirtual 96, 3) := by decide +kernel
theorem dL_law_1325 : decode mL_law.cd 1325 = .ok (.iload 5, 2) := by decide +kernel
theorem dL_law_1327 : decode mL_law.cd 1327 = .ok (.if_icmp .eq 5, 3) := by decide +kernel
theorem dL_law_1330 : decode mL_law.cd 1330 = .ok (.iconst 0, 1) := by decide +kernel
theorem dL_law_1331 : decode mL_law.cd 1331 = .ok (.ireturn, 1) := by decide +kernel
theorem dL_law_1332 : decode mL_law.cd 1332 = .ok (.iload 5, 2) := by decide +kernel
theorem dL_law_1334 : decode mL_law.cd 1334 = .ok (.ifCond .ne 15, 3) := by decide +kernel
theorem dL_law_1337 : decode mL_law.cd 1337 = .ok (.aload_n 3, 1) := by decide +kernel
theorem dL_law_1338 : decode mL_law.cd 1338 = .ok (.iconst 0, 1) := by decide +kernel
theorem dL_law_1339 : decode mL_law.cd 1339 = .ok (.laload, 1) := by decide +kernel
theorem dL_law_1340 : decode mL_law.cd 1340 = .ok (.iload 6, 2) := by decide +kernel
theorem dL_law_1342 : decode mL_law.cd 1342 = .ok (.i2l, 1) := by decide +kernel
theorem dL_law_1343 : decode mL_law.cd 1343 = .ok (.lcmp, 1) := by decide +kernel
theorem dL_law_1344 : decode mL_law.cd 1344 = .ok (.ifCond .eq 5, 3) := by decide +kernel
theorem dL_law_1347 : decode mL_law.cd 1347 = .ok (.iconst 0, 1) := by decide +kernel
theorem dL_law_1348 : decode mL_law.cd 1348 = .ok (.ireturn, 1) := by decide +kernel
theorem dL_law_1349 : decode mL_law.cd 1349 = .ok (.goto 422, 3) := by decide +kernel
theorem dL_law_1352 : decode mL_law.cd 1352 = .ok (.aload_n 1, 1) := by decide +kernel
theorem dL_law_1353 : decode mL_law.cd 1353 = .ok (.aload_n 0, 1) := by decide +kernel
theorem dL_law_1354 : decode mL_law.cd 1354 = .ok (.iload 4, 2) := by decide +kernel
theorem dL_law_1356 : decode mL_law.cd 1356 = .ok (.iconst 1, 1) := by decide +kernel
theorem dL_law_1357 : decode mL_law.cd 1357 = .ok (.iadd, 1) := by decide +kernel
theorem dL_law_1358 : decode mL_law.cd 1358 = .ok (.iaload, 1) := by decide +kernel
theorem dL_law_1359 : decode mL_law.cd 1359 = .ok (.aload_n 3, 1) := by decide +kernel
theorem dL_law_1360 : decode mL_law.cd 1360 = .ok (.invokestatic 160, 3) := by decide +kernel
theorem dL_law_1363 : decode mL_law.cd 1363 = .ok (.istore 5, 2) := by decide +kernel
theorem dL_law_1365 : decode mL_law.cd 1365 = .ok (.aload_n 2, 1) := by decide +kernel
theorem dL_law_1366 : decode mL_law.cd 1366 = .ok (.aload_n 0, 1) := by decide +kernel
theorem dL_law_1367 : decode mL_law.cd 1367 = .ok (.iload 4, 2) := by decide +kernel
theorem dL_law_1369 : decode mL_law.cd 1369 = .ok (.iconst 1, 1) := by decide +kernel
theorem dL_law_1370 : decode mL_law.cd 1370 = .ok (.iadd, 1) := by decide +kernel
theorem dL_law_1371 : decode mL_law.cd 1371 = .ok (.iaload, 1) := by decide +kernel
theorem dL_law_1372 : decode mL_law.cd 1372 = .ok (.invokevirtual 162, 3) := by decide +kernel
theorem dL_law_1375 : decode mL_law.cd 1375 = .ok (.istore 6, 2) := by decide +kernel
theorem dL_law_1377 : decode mL_law.cd 1377 = .ok (.aload_n 2, 1) := by decide +kernel
theorem dL_law_1378 : decode mL_law.cd 1378 = .ok (.invokevirtual 96, 3) := by decide +kernel
theorem dL_law_1381 : decode mL_law.cd 1381 = .ok (.iload 5, 2) := by decide +kernel
theorem dL_law_1383 : decode mL_law.cd 1383 = .ok (.if_icmp .eq 5, 3) := by decide +kernel
theorem dL_law_1386 : decode mL_law.cd 1386 = .ok (.iconst 0, 1) := by decide +kernel
theorem dL_law_1387 : decode mL_law.cd 1387 = .ok (.ireturn, 1) := by decide +kernel
theorem dL_law_1388 : decode mL_law.cd 1388 = .ok (.iload 5, 2) := by decide +kernel
theorem dL_law_1390 : decode mL_law.cd 1390 = .ok (.ifCond .ne 15, 3) := by decide +kernel
theorem dL_law_1393 : decode mL_law.cd 1393 = .ok (.aload_n 3, 1) := by decide +kernel
theorem dL_law_1394 : decode mL_law.cd 1394 = .ok (.iconst 0, 1) := by decide +kernel
theorem dL_law_1395 : decode mL_law.cd 1395 = .ok (.laload, 1) := by decide +kernel
theorem dL_law_1396 : decode mL_law.cd 1396 = .ok (.iload 6, 2) := by decide +kernel
theorem dL_law_1398 : decode mL_law.cd 1398 = .ok (.i2l, 1) := by decide +kernel
theorem dL_law_1399 : decode mL_law.cd 1399 = .ok (.lcmp, 1) := by decide +kernel
theorem dL_law_1400 : decode mL_law.cd 1400 = .ok (.ifCond .eq 5, 3) := by decide +kernel
theorem dL_law_1403 : decode mL_law.cd 1403 = .ok (.iconst 0, 1) := by decide +kernel
theorem dL_law_1404 : decode mL_law.cd 1404 = .ok (.ireturn, 1) := by decide +kernel
theorem dL_law_1405 : decode mL_law.cd 1405 = .ok (.goto 366, 3) := by decide +kernel
theorem dL_law_1408 : decode mL_law.cd 1408 = .ok (.aload_n 1, 1) := by decide +kernel
theorem dL_law_1409 : decode mL_law.cd 1409 = .ok (.aload_n 0, 1) := by decide +kernel
theorem dL_law_1410 : decode mL_law.cd 1410 = .ok (.iload 4, 2) := by decide +kernel
theorem dL_law_1412 : decode mL_law.cd 1412 = .ok (.iconst 1, 1) := by decide +kernel
theorem dL_law_1413 : decode mL_law.cd 1413 = .ok (.iadd, 1) := by decide +kernel
theorem dL_law_1414 : decode mL_law.cd 1414 = .ok (.iaload, 1) := by decide +kernel
theorem dL_law_1415 : decode mL_law.cd 1415 = .ok (.aload_n 0, 1) := by decide +kernel
theorem dL_law_1416 : decode mL_law.cd 1416 = .ok (.iload 4, 2) := by decide +kernel
theorem dL_law_1418 : decode mL_law.cd 1418 = .ok (.iconst 2, 1) := by decide +kernel
theorem dL_law_1419 : decode mL_law.cd 1419 = .ok (.iadd, 1) := by decide +kernel
theorem dL_law_1420 : decode mL_law.cd 1420 = .ok (.iaload, 1) := by decide +kernel
theorem dL_law_1421 : decode mL_law.cd 1421 = .ok (.aload_n 0, 1) := by decide +kernel
theorem dL_law_1422 : decode mL_law.cd 1422 = .ok (.iload 4, 2) := by decide +kernel
theorem dL_law_1424 : decode mL_law.cd 1424 = .ok (.iconst 3, 1) := by decide +kernel
theorem dL_law_1425 : decode mL_law.cd 1425 = .ok (.iadd, 1) := by decide +kernel
theorem dL_law_1426 : decode mL_law.cd 1426 = .ok (.iaload, 1) := by decide +kernel
theorem dL_law_1427 : decode mL_law.cd 1427 = .ok (.aload_n 3, 1) := by decide +kernel
theorem dL_law_1428 : decode mL_law.cd 1428 = .ok (.invokestatic 163, 3) := by decide +kernel
theorem dL_law_1431 : decode mL_law.cd 1431 = .ok (.istore 5, 2) := by decide +kernel
theorem dL_law_1433 : decode mL_law.cd 1433 = .ok (.aload_n 2, 1) := by decide +kernel
theorem dL_law_1434 : decode mL_law.cd 1434 = .ok (.aload_n 0, 1) := by decide +kernel
theorem dL_law_1435 : decode mL_law.cd 1435 = .ok (.iload 4, 2) := by decide +kernel
theorem dL_law_1437 : decode mL_law.cd 1437 = .ok (.iconst 1, 1) := by decide +kernel
theorem dL_law_1438 : decode mL_law.cd 1438 = .ok (.iadd, 1) := by decide +kernel
theorem dL_law_1439 : decode mL_law.cd 1439 = .ok (.iaload, 1) := by decide +kernel
theorem dL_law_1440 : decode mL_law.cd 1440 = .ok (.aload_n 0, 1) := by decide +kernel
theorem dL_law_1441 : decode mL_law.cd 1441 = .ok (.iload 4, 2) := by decide +kernel
theorem dL_law_1443 : decode mL_law.cd 1443 = .ok (.iconst 2, 1) := by decide +kernel
theorem dL_law_1444 : decode mL_law.cd 1444 = .ok (.iadd, 1) := by decide +kernel
theorem dL_law_1445 : decode mL_law.cd 1445 = .ok (.iaload, 1) := by decide +kernel
theorem dL_law_1446 : decode mL_law.cd 1446 = .ok (.aload_n 0, 1) := by decide +kernel
theorem dL_law_1447 : decode mL_law.cd 1447 = .ok (.iload 4, 2) := by decide +kernel
theorem dL_law_1449 : decode mL_law.cd 1449 = .ok (.iconst 3, 1) := by decide +kernel
theorem dL_law_1450 : decode mL_law.cd 1450 = .ok (.iadd, 1) := by decide +kernel
theorem dL_law_1451 : decode mL_law.cd 1451 = .ok (.iaload, 1) := by decide +kernel
theorem dL_law_1452 : decode mL_law.cd 1452 = .ok (.invokevirtual 165, 3) := by decide +kernel
theorem dL_law_1455 : decode mL_law.cd 1455 = .ok (.istore 6, 2) := by decide +kernel
theorem dL_law_1457 : decode mL_law.cd 1457 = .ok (.aload_n 2, 1) := by decide +kernel
theorem dL_law_1458 : decode mL_law.cd 1458 = .ok (.invokevirtual 96, 3) := by decide +kernel
theorem dL_law_1461 : decode mL_law.cd 1461 = .ok (.iload 5, 2) := by decide +kernel
theorem dL_law_1463 : decode mL_law.cd 1463 = .ok (.if_icmp .eq 5, 3) := by decide +kernel
theorem dL_law_1466 : decode mL_law.cd 1466 = .ok (.iconst 0, 1) := by decide +kernel
theorem dL_law_1467 : decode mL_law.cd 1467 = .ok (.ireturn, 1) := by decide +kernel
theorem dL_law_1468 : decode mL_law.cd 1468 = .ok (.iload 5, 2) := by decide +kernel
theorem dL_law_1470 : decode mL_law.cd 1470 = .ok (.ifCond .ne 22, 3) := by decide +kernel
theorem dL_law_1473 : decode mL_law.cd 1473 = .ok (.aload_n 3, 1) := by decide +kernel
theorem dL_law_1474 : decode mL_law.cd 1474 = .ok (.iconst 0, 1) := by decide +kernel
theorem dL_law_1475 : decode mL_law.cd 1475 = .ok (.laload, 1) := by decide +kernel
theorem dL_law_1476 : decode mL_law.cd 1476 = .ok (.iload 6, 2) := by decide +kernel
theorem dL_law_1478 : decode mL_law.cd 1478 = .ok (.ifCond .eq 7, 3) := by decide +kernel
theorem dL_law_1481 : decode mL_law.cd 1481 = .ok (.lconst 1, 1) := by decide +kernel
theorem dL_law_1482 : decode mL_law.cd 1482 = .ok (.goto 4, 3) := by decide +kernel
theorem dL_law_1485 : decode mL_law.cd 1485 = .ok (.lconst 0, 1) := by decide +kernel
theorem dL_law_1486 : decode mL_law.cd 1486 = .ok (.lcmp, 1) := by decide +kernel
theorem dL_law_1487 : decode mL_law.cd 1487 = .ok (.ifCond .eq 5, 3) := by decide +kernel
theorem dL_law_1490 : decode mL_law.cd 1490 = .ok (.iconst 0, 1) := by decide +kernel
theorem dL_law_1491 : decode mL_law.cd 1491 = .ok (.ireturn, 1) := by decide +kernel
theorem dL_law_1492 : decode mL_law.cd 1492 = .ok (.goto 279, 3) := by decide +kernel
theorem dL_law_1495 : decode mL_law.cd 1495 = .ok (.aload_n 1, 1) := by decide +kernel
theorem dL_law_1496 : decode mL_law.cd 1496 = .ok (.aload_n 0, 1) := by decide +kernel
theorem dL_law_1497 : decode mL_law.cd 1497 = .ok (.iload 4, 2) := by decide +kernel
theorem dL_law_1499 : decode mL_law.cd 1499 = .ok (.iconst 1, 1) := by decide +kernel
theorem dL_law_1500 : decode mL_law.cd 1500 = .ok (.iadd, 1) := by decide +kernel
theorem dL_law_1501 : decode mL_law.cd 1501 = .ok (.iaload, 1) := by decide +kernel
theorem dL_law_1502 : decode mL_law.cd 1502 = .ok (.aload_n 0, 1) := by decide +kernel
theorem dL_law_1503 : decode mL_law.cd 1503 = .ok (.iload 4, 2) := by decide +kernel
theorem dL_law_1505 : decode mL_law.cd 1505 = .ok (.iconst 2, 1) := by decide +kernel
theorem dL_law_1506 : decode mL_law.cd 1506 = .ok (.iadd, 1) := by decide +kernel
theorem dL_law_1507 : decode mL_law.cd 1507 = .ok (.iaload, 1) := by decide +kernel
theorem dL_law_1508 : decode mL_law.cd 1508 = .ok (.aload_n 0, 1) := by decide +kernel
theorem dL_law_1509 : decode mL_law.cd 1509 = .ok (.iload 4, 2) := by decide +kernel
theorem dL_law_1511 : decode mL_law.cd 1511 = .ok (.iconst 3, 1) := by decide +kernel
theorem dL_law_1512 : decode mL_law.cd 1512 = .ok (.iadd, 1) := by decide +kernel
theorem dL_law_1513 : decode mL_law.cd 1513 = .ok (.iaload, 1) := by decide +kernel
theorem dL_law_1514 : decode mL_law.cd 1514 = .ok (.aload_n 3, 1) := by decide +kernel
theorem dL_law_1515 : decode mL_law.cd 1515 = .ok (.invokestatic 166, 3) := by decide +kernel
theorem dL_law_1518 : decode mL_law.cd 1518 = .ok (.istore 5, 2) := by decide +kernel
theorem dL_law_1520 : decode mL_law.cd 1520 = .ok (.aload_n 2, 1) := by decide +kernel
theorem dL_law_1521 : decode mL_law.cd 1521 = .ok (.aload_n 0, 1) := by decide +kernel
theorem dL_law_1522 : decode mL_law.cd 1522 = .ok (.iload 4, 2) := by decide +kernel
theorem dL_law_1524 : decode mL_law.cd 1524 = .ok (.iconst 1, 1) := by decide +kernel
theorem dL_law_1525 : decode mL_law.cd 1525 = .ok (.iadd, 1) := by decide +kernel
theorem dL_law_1526 : decode mL_law.cd 1526 = .ok (.iaload, 1) := by decide +kernel
theorem dL_law_1527 : decode mL_law.cd 1527 = .ok (.aload_n 0, 1) := by decide +kernel
theorem dL_law_1528 : decode mL_law.cd 1528 = .ok (.iload 4, 2) := by decide +kernel
theorem dL_law_1530 : decode mL_law.cd 1530 = .ok (.iconst 2, 1) := by decide +kernel
theorem dL_law_1531 : decode mL_law.cd 1531 = .ok (.iadd, 1) := by decide +kernel
theorem dL_law_1532 : decode mL_law.cd 1532 = .ok (.iaload, 1) := by decide +kernel
theorem dL_law_1533 : decode mL_law.cd 1533 = .ok (.aload_n 0, 1) := by decide +kernel
theorem dL_law_1534 : decode mL_law.cd 1534 = .ok (.iload 4, 2) := by decide +kernel
theorem dL_law_1536 : decode mL_law.cd 1536 = .ok (.iconst 3, 1) := by decide +kernel
theorem dL_law_1537 : decode mL_law.cd 1537 = .ok (.iadd, 1) := by decide +kernel
theorem dL_law_1538 : decode mL_law.cd 1538 = .ok (.iaload, 1) := by decide +kernel
theorem dL_law_1539 : decode mL_law.cd 1539 = .ok (.invokevirtual 168, 3) := by decide +kernel
theorem dL_law_1542 : decode mL_law.cd 1542 = .ok (.istore 6, 2) := by decide +kernel
theorem dL_law_1544 : decode mL_law.cd 1544 = .ok (.aload_n 2, 1) := by decide +kernel
theorem dL_law_1545 : decode mL_law.cd 1545 = .ok (.invokevirtual 96, 3) := by decide +kernel
theorem dL_law_1548 : decode mL_law.cd 1548 = .ok (.iload 5, 2) := by decide +kernel
theorem dL_law_1550 : decode mL_law.cd 1550 = .ok (.if_icmp .eq 5, 3) := by decide +kernel
theorem dL_law_1553 : decode mL_law.cd 1553 = .ok (.iconst 0, 1) := by decide +kernel
theorem dL_law_1554 : decode mL_law.cd 1554 = .ok (.ireturn, 1) := by decide +kernel
theorem dL_law_1555 : decode mL_law.cd 1555 = .ok (.iload 5, 2) := by decide +kernel
theorem dL_law_1557 : decode mL_law.cd 1557 = .ok (.ifCond .ne 15, 3) := by decide +kernel
theorem dL_law_1560 : decode mL_law.cd 1560 = .ok (.aload_n 3, 1) := by decide +kernel
theorem dL_law_1561 : decode mL_law.cd 1561 = .ok (.iconst 0, 1) := by decide +kernel
theorem dL_law_1562 : decode mL_law.cd 1562 = .ok (.laload, 1) := by decide +kernel
theorem dL_law_1563 : decode mL_law.cd 1563 = .ok (.iload 6, 2) := by decide +kernel
theorem dL_law_1565 : decode mL_law.cd 1565 = .ok (.i2l, 1) := by decide +kernel
theorem dL_law_1566 : decode mL_law.cd 1566 = .ok (.lcmp, 1) := by decide +kernel
theorem dL_law_1567 : decode mL_law.cd 1567 = .ok (.ifCond .eq 5, 3) := by decide +kernel
theorem dL_law_1570 : decode mL_law.cd 1570 = .ok (.iconst 0, 1) := by decide +kernel
theorem dL_law_1571 : decode mL_law.cd 1571 = .ok (.ireturn, 1) := by decide +kernel
theorem dL_law_1572 : decode mL_law.cd 1572 = .ok (.goto 199, 3) := by decide +kernel
theorem dL_law_1575 : decode mL_law.cd 1575 = .ok (.aload_n 1, 1) := by decide +kernel
theorem dL_law_1576 : decode mL_law.cd 1576 = .ok (.aload_n 0, 1) := by decide +kernel
theorem dL_law_1577 : decode mL_law.cd 1577 = .ok (.iload 4, 2) := by decide +kernel
theorem dL_law_1579 : decode mL_law.cd 1579 = .ok (.iconst 1, 1) := by decide +kernel
theorem dL_law_1580 : decode mL_law.cd 1580 = .ok (.iadd, 1) := by decide +kernel
theorem dL_law_1581 : decode mL_law.cd 1581 = .ok (.iaload, 1) := by decide +kernel
theorem dL_law_1582 : decode mL_law.cd 1582 = .ok (.aload_n 0, 1) := by decide +kernel
theorem dL_law_1583 : decode mL_law.cd 1583 = .ok (.iload 4, 2) := by decide +kernel
theorem dL_law_1585 : decode mL_law.cd 1585 = .ok (.iconst 2, 1) := by decide +kernel
theorem dL_law_1586 : decode mL_law.cd 1586 = .ok (.iadd, 1) := by decide +kernel
theorem dL_law_1587 : decode mL_law.cd 1587 = .ok (.iaload, 1) := by decide +kernel
theorem dL_law_1588 : decode mL_law.cd 1588 = .ok (.aload_n 0, 1) := by decide +kernel
theorem dL_law_1589 : decode mL_law.cd 1589 = .ok (.iload 4, 2) := by decide +kernel
theorem dL_law_1591 : decode mL_law.cd 1591 = .ok (.iconst 3, 1) := by decide +kernel
theorem dL_law_1592 : decode mL_law.cd 1592 = .ok (.iadd, 1) := by decide +kernel
theorem dL_law_1593 : decode mL_law.cd 1593 = .ok (.iaload, 1) := by decide +kernel
theorem dL_law_1594 : decode mL_law.cd 1594 = .ok (.aload_n 0, 1) := by decide +kernel
theorem dL_law_1595 : decode mL_law.cd 1595 = .ok (.iload 4, 2) := by decide +kernel
theorem dL_law_1597 : decode mL_law.cd 1597 = .ok (.iconst 4, 1) := by decide +kernel
theorem dL_law_1598 : decode mL_law.cd 1598 = .ok (.iadd, 1) := by decide +kernel
theorem dL_law_1599 : decode mL_law.cd 1599 = .ok (.iaload, 1) := by decide +kernel
theorem dL_law_1600 : decode mL_law.cd 1600 = .ok (.aload_n 0, 1) := by decide +kernel
theorem dL_law_1601 : decode mL_law.cd 1601 = .ok (.iload 4, 2) := by decide +kernel
theorem dL_law_1603 : decode mL_law.cd 1603 = .ok (.iconst 5, 1) := by decide +kernel
theorem dL_law_1604 : decode mL_law.cd 1604 = .ok (.iadd, 1) := by decide +kernel
theorem dL_law_1605 : decode mL_law.cd 1605 = .ok (.iaload, 1) := by decide +kernel
theorem dL_law_1606 : decode mL_law.cd 1606 = .ok (.aload_n 3, 1) := by decide +kernel
theorem dL_law_1607 : decode mL_law.cd 1607 = .ok (.invokestatic 169, 3) := by decide +kernel
theorem dL_law_1610 : decode mL_law.cd 1610 = .ok (.istore 5, 2) := by decide +kernel
theorem dL_law_1612 : decode mL_law.cd 1612 = .ok (.aload_n 2, 1) := by decide +kernel
theorem dL_law_1613 : decode mL_law.cd 1613 = .ok (.aload_n 0, 1) := by decide +kernel
theorem dL_law_1614 : decode mL_law.cd 1614 = .ok (.iload 4, 2) := by decide +kernel
theorem dL_law_1616 : decode mL_law.cd 1616 = .ok (.iconst 1, 1) := by decide +kernel
theorem dL_law_1617 : decode mL_law.cd 1617 = .ok (.iadd, 1) := by decide +kernel
theorem dL_law_1618 : decode mL_law.cd 1618 = .ok (.iaload, 1) := by decide +kernel
theorem dL_law_1619 : decode mL_law.cd 1619 = .ok (.aload_n 0, 1) := by decide +kernel
theorem dL_law_1620 : decode mL_law.cd 1620 = .ok (.iload 4, 2) := by decide +kernel
theorem dL_law_1622 : decode mL_law.cd 1622 = .ok (.iconst 2, 1) := by decide +kernel
theorem dL_law_1623 : decode mL_law.cd 1623 = .ok (.iadd, 1) := by decide +kernel
theorem dL_law_1624 : decode mL_law.cd 1624 = .ok (.iaload, 1) := by decide +kernel
theorem dL_law_1625 : decode mL_law.cd 1625 = .ok (.aload_n 0, 1) := by decide +kernel
theorem dL_law_1626 : decode mL_law.cd 1626 = .ok (.iload 4, 2) := by decide +kernel
theorem dL_law_1628 : decode mL_law.cd 1628 = .ok (.iconst 3, 1) := by decide +kernel
theorem dL_law_1629 : decode mL_law.cd 1629 = .ok (.iadd, 1) := by decide +kernel
theorem dL_law_1630 : decode mL_law.cd 1630 = .ok (.iaload, 1) := by decide +kernel
theorem dL_law_1631 : decode mL_law.cd 1631 = .ok (.aload_n 0, 1) := by decide +kernel
theorem dL_law_1632 : decode mL_law.cd 1632 = .ok (.iload 4, 2) := by decide +kernel
theorem dL_law_1634 : decode mL_law.cd 1634 = .ok (.iconst 4, 1) := by decide +kernel
theorem dL_law_1635 : decode mL_law.cd 1635 = .ok (.iadd, 1) := by decide +kernel
theorem dL_law_1636 : decode mL_law.cd 1636 = .ok (.iaload, 1) := by decide +kernel
theorem dL_law_1637 : decode mL_law.cd 1637 = .ok (.aload_n 0, 1) := by decide +kernel
theorem dL_law_1638 : decode mL_law.cd 1638 = .ok (.iload 4, 2) := by decide +kernel
theorem dL_law_1640 : decode mL_law.cd 1640 = .ok (.iconst 5, 1) := by decide +kernel
theorem dL_law_1641 : decode mL_law.cd 1641 = .ok (.iadd, 1) := by decide +kernel
theorem dL_law_1642 : decode mL_law.cd 1642 = .ok (.iaload, 1) := by decide +kernel
theorem dL_law_1643 : decode mL_law.cd 1643 = .ok (.invokevirtual 172, 3) := by decide +kernel
theorem dL_law_1646 : decode mL_law.cd 1646 = .ok (.istore 6, 2) := by decide +kernel
theorem dL_law_1648 : decode mL_law.cd 1648 = .ok (.aload_n 2, 1) := by decide +kernel
theorem dL_law_1649 : decode mL_law.cd 1649 = .ok (.invokevirtual 96, 3) := by decide +kernel
theorem dL_law_1652 : decode mL_law.cd 1652 = .ok (.iload 5, 2) := by decide +kernel
theorem dL_law_1654 : decode mL_law.cd 1654 = .ok (.if_icmp .eq 5, 3) := by decide +kernel
theorem dL_law_1657 : decode mL_law.cd 1657 = .ok (.iconst 0, 1) := by decide +kernel
theorem dL_law_1658 : decode mL_law.cd 1658 = .ok (.ireturn, 1) := by decide +kernel
theorem dL_law_1659 : decode mL_law.cd 1659 = .ok (.iload 5, 2) := by decide +kernel
theorem dL_law_1661 : decode mL_law.cd 1661 = .ok (.ifCond .ne 15, 3) := by decide +kernel
theorem dL_law_1664 : decode mL_law.cd 1664 = .ok (.aload_n 3, 1) := by decide +kernel
theorem dL_law_1665 : decode mL_law.cd 1665 = .ok (.iconst 0, 1) := by decide +kernel
theorem dL_law_1666 : decode mL_law.cd 1666 = .ok (.laload, 1) := by decide +kernel
theorem dL_law_1667 : decode mL_law.cd 1667 = .ok (.iload 6, 2) := by decide +kernel
theorem dL_law_1669 : decode mL_law.cd 1669 = .ok (.i2l, 1) := by decide +kernel
theorem dL_law_1670 : decode mL_law.cd 1670 = .ok (.lcmp, 1) := by decide +kernel
theorem dL_law_1671 : decode mL_law.cd 1671 = .ok (.ifCond .eq 5, 3) := by decide +kernel
theorem dL_law_1674 : decode mL_law.cd 1674 = .ok (.iconst 0, 1) := by decide +kernel
theorem dL_law_1675 : decode mL_law.cd 1675 = .ok (.ireturn, 1) := by decide +kernel
theorem dL_law_1676 : decode mL_law.cd 1676 = .ok (.goto 95, 3) := by decide +kernel
theorem dL_law_1679 : decode mL_law.cd 1679 = .ok (.aload_n 1, 1) := by decide +kernel
theorem dL_law_1680 : decode mL_law.cd 1680 = .ok (.aload_n 0, 1) := by decide +kernel
theorem dL_law_1681 : decode mL_law.cd 1681 = .ok (.iload 4, 2) := by decide +kernel
theorem dL_law_1683 : decode mL_law.cd 1683 = .ok (.iconst 1, 1) := by decide +kernel
theorem dL_law_1684 : decode mL_law.cd 1684 = .ok (.iadd, 1) := by decide +kernel
theorem dL_law_1685 : decode mL_law.cd 1685 = .ok (.iaload, 1) := by decide +kernel
theorem dL_law_1686 : decode mL_law.cd 1686 = .ok (.aload_n 0, 1) := by decide +kernel
theorem dL_law_1687 : decode mL_law.cd 1687 = .ok (.iload 4, 2) := by decide +kernel
theorem dL_law_1689 : decode mL_law.cd 1689 = .ok (.iconst 2, 1) := by decide +kernel
theorem dL_law_1690 : decode mL_law.cd 1690 = .ok (.iadd, 1) := by decide +kernel
theorem dL_law_1691 : decode mL_law.cd 1691 = .ok (.iaload, 1) := by decide +kernel
theorem dL_law_1692 : decode mL_law.cd 1692 = .ok (.aload_n 3, 1) := by decide +kernel
theorem dL_law_1693 : decode mL_law.cd 1693 = .ok (.invokestatic 173, 3) := by decide +kernel
theorem dL_law_1696 : decode mL_law.cd 1696 = .ok (.istore 5, 2) := by decide +kernel
theorem dL_law_1698 : decode mL_law.cd 1698 = .ok (.aload_n 2, 1) := by decide +kernel
theorem dL_law_1699 : decode mL_law.cd 1699 = .ok (.aload_n 0, 1) := by decide +kernel
theorem dL_law_1700 : decode mL_law.cd 1700 = .ok (.iload 4, 2) := by decide +kernel
theorem dL_law_1702 : decode mL_law.cd 1702 = .ok (.iconst 1, 1) := by decide +kernel
theorem dL_law_1703 : decode mL_law.cd 1703 = .ok (.iadd, 1) := by decide +kernel
theorem dL_law_1704 : decode mL_law.cd 1704 = .ok (.iaload, 1) := by decide +kernel
theorem dL_law_1705 : decode mL_law.cd 1705 = .ok (.aload_n 0, 1) := by decide +kernel
theorem dL_law_1706 : decode mL_law.cd 1706 = .ok (.iload 4, 2) := by decide +kernel
theorem dL_law_1708 : decode mL_law.cd 1708 = .ok (.iconst 2, 1) := by decide +kernel
theorem dL_law_1709 : decode mL_law.cd 1709 = .ok (.iadd, 1) := by decide +kernel
theorem dL_law_1710 : decode mL_law.cd 1710 = .ok (.iaload, 1) := by decide +kernel
theorem dL_law_1711 : decode mL_law.cd 1711 = .ok (.invokevirtual 175, 3) := by decide +kernel
theorem dL_law_1714 : decode mL_law.cd 1714 = .ok (.istore 6, 2) := by decide +kernel
theorem dL_law_1716 : decode mL_law.cd 1716 = .ok (.aload_n 2, 1) := by decide +kernel
theorem dL_law_1717 : decode mL_law.cd 1717 = .ok (.invokevirtual 96, 3) := by decide +kernel
theorem dL_law_1720 : decode mL_law.cd 1720 = .ok (.iload 5, 2) := by decide +kernel
theorem dL_law_1722 : decode mL_law.cd 1722 = .ok (.if_icmp .eq 5, 3) := by decide +kernel
theorem dL_law_1725 : decode mL_law.cd 1725 = .ok (.iconst 0, 1) := by decide +kernel
theorem dL_law_1726 : decode mL_law.cd 1726 = .ok (.ireturn, 1) := by decide +kernel
theorem dL_law_1727 : decode mL_law.cd 1727 = .ok (.iload 5, 2) := by decide +kernel
theorem dL_law_1729 : decode mL_law.cd 1729 = .ok (.ifCond .ne 15, 3) := by decide +kernel
theorem dL_law_1732 : decode mL_law.cd 1732 = .ok (.aload_n 3, 1) := by decide +kernel
theorem dL_law_1733 : decode mL_law.cd 1733 = .ok (.iconst 0, 1) := by decide +kernel
theorem dL_law_1734 : decode mL_law.cd 1734 = .ok (.laload, 1) := by decide +kernel
theorem dL_law_1735 : decode mL_law.cd 1735 = .ok (.iload 6, 2) := by decide +kernel
theorem dL_law_1737 : decode mL_law.cd 1737 = .ok (.i2l, 1) := by decide +kernel
theorem dL_law_1738 : decode mL_law.cd 1738 = .ok (.lcmp, 1) := by decide +kernel
theorem dL_law_1739 : decode mL_law.cd 1739 = .ok (.ifCond .eq 5, 3) := by decide +kernel
theorem dL_law_1742 : decode mL_law.cd 1742 = .ok (.iconst 0, 1) := by decide +kernel
theorem dL_law_1743 : decode mL_law.cd 1743 = .ok (.ireturn, 1) := by decide +kernel
theorem dL_law_1744 : decode mL_law.cd 1744 = .ok (.goto 27, 3) := by decide +kernel
theorem dL_law_1747 : decode mL_law.cd 1747 = .ok (.aload_n 1, 1) := by decide +kernel
theorem dL_law_1748 : decode mL_law.cd 1748 = .ok (.invokevirtual 176, 3) := by decide +kernel
theorem dL_law_1751 : decode mL_law.cd 1751 = .ok (.aload_n 2, 1) := by decide +kernel
theorem dL_law_1752 : decode mL_law.cd 1752 = .ok (.invokevirtual 179, 3) := by decide +kernel
theorem dL_law_1755 : decode mL_law.cd 1755 = .ok (.goto 16, 3) := by decide +kernel
theorem dL_law_1758 : decode mL_law.cd 1758 = .ok (.aload_n 1, 1) := by decide +kernel
theorem dL_law_1759 : decode mL_law.cd 1759 = .ok (.invokevirtual 180, 3) := by decide +kernel
theorem dL_law_1762 : decode mL_law.cd 1762 = .ok (.aload_n 2, 1) := by decide +kernel
theorem dL_law_1763 : decode mL_law.cd 1763 = .ok (.invokevirtual 184, 3) := by decide +kernel
theorem dL_law_1766 : decode mL_law.cd 1766 = .ok (.if_icmp .eq 5, 3) := by decide +kernel
theorem dL_law_1769 : decode mL_law.cd 1769 = .ok (.iconst 0, 1) := by decide +kernel
theorem dL_law_1770 : decode mL_law.cd 1770 = .ok (.ireturn, 1) := by decide +kernel
theorem dL_law_1771 : decode mL_law.cd 1771 = .ok (.iinc 4 6, 3) := by decide +kernel
theorem dL_law_1774 : decode mL_law.cd 1774 = .ok (.goto (-1751), 3) := by decide +kernel
theorem dL_law_1777 : decode mL_law.cd 1777 = .ok (.iconst 1, 1) := by decide +kernel
theorem dL_law_1778 : decode mL_law.cd 1778 = .ok (.ireturn, 1) := by decide +kernel
