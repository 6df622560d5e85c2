theorem dX12_line__0 : decode mX12_line_.cd 0 = .ok (.aload_n 0, 1) := by decide +kernel
theorem dX12_line__1 : decode mX12_line_.cd 1 = .ok (.iconst 0, 1) := by decide +kernel
theorem dX12_line__2 : decode mX12_line_.cd 2 = .ok (.putfield 136, 3) := by decide +kernel
theorem dX12_line__5 : decode mX12_line_.cd 5 = .ok (.aload_n 0, 1) := by decide +kernel
theorem dX12_line__6 : decode mX12_line_.cd 6 = .ok (.iload_n 1, 1) := by decide +kernel
theorem dX12_line__7 : decode mX12_line_.cd 7 = .ok (.invokevirtual 408, 3) := by decide +kernel
theorem dX12_line__10 : decode mX12_line_.cd 10 = .ok (.ifCond .eq 30, 3) := by decide +kernel
theorem dX12_line__13 : decode mX12_line_.cd 13 = .ok (.aload_n 0, 1) := by decide +kernel
theorem dX12_line__14 : decode mX12_line_.cd 14 = .ok (.iload_n 2, 1) := by decide +kernel
theorem dX12_line__15 : decode mX12_line_.cd 15 = .ok (.iconst (-1), 1) := by decide +kernel
theorem dX12_line__16 : decode mX12_line_.cd 16 = .ok (.if_icmp .lt 16, 3) := by decide +kernel
theorem dX12_line__19 : decode mX12_line_.cd 19 = .ok (.iload_n 3, 1) := by decide +kernel
theorem dX12_line__20 : decode mX12_line_.cd 20 = .ok (.iconst 0, 1) := by decide +kernel
theorem dX12_line__21 : decode mX12_line_.cd 21 = .ok (.iconst 3, 1) := by decide +kernel
theorem dX12_line__22 : decode mX12_line_.cd 22 = .ok (.invokestatic 301, 3) := by decide +kernel
theorem dX12_line__25 : decode mX12_line_.cd 25 = .ok (.ifCond .eq 7, 3) := by decide +kernel
theorem dX12_line__28 : decode mX12_line_.cd 28 = .ok (.iconst 1, 1) := by decide +kernel
theorem dX12_line__29 : decode mX12_line_.cd 29 = .ok (.goto 4, 3) := by decide +kernel
theorem dX12_line__32 : decode mX12_line_.cd 32 = .ok (.iconst 0, 1) := by decide +kernel
theorem dX12_line__33 : decode mX12_line_.cd 33 = .ok (.iconst 1, 1) := by decide +kernel
theorem dX12_line__34 : decode mX12_line_.cd 34 = .ok (.invokevirtual 260, 3) := by decide +kernel
theorem dX12_line__37 : decode mX12_line_.cd 37 = .ok (.ifCond .ne 5, 3) := by decide +kernel
theorem dX12_line__40 : decode mX12_line_.cd 40 = .ok (.iconst 0, 1) := by decide +kernel
theorem dX12_line__41 : decode mX12_line_.cd 41 = .ok (.ireturn, 1) := by decide +kernel
theorem dX12_line__42 : decode mX12_line_.cd 42 = .ok (.iload_n 2, 1) := by decide +kernel
theorem dX12_line__43 : decode mX12_line_.cd 43 = .ok (.iconst (-1), 1) := by decide +kernel
theorem dX12_line__44 : decode mX12_line_.cd 44 = .ok (.if_icmp .ne 51, 3) := by decide +kernel
theorem dX12_line__47 : decode mX12_line_.cd 47 = .ok (.aload_n 0, 1) := by decide +kernel
theorem dX12_line__48 : decode mX12_line_.cd 48 = .ok (.iload_n 1, 1) := by decide +kernel
theorem dX12_line__49 : decode mX12_line_.cd 49 = .ok (.invokevirtual 411, 3) := by decide +kernel
theorem dX12_line__52 : decode mX12_line_.cd 52 = .ok (.aload_n 0, 1) := by decide +kernel
theorem dX12_line__53 : decode mX12_line_.cd 53 = .ok (.aload_n 0, 1) := by decide +kernel
theorem dX12_line__54 : decode mX12_line_.cd 54 = .ok (.getfield 387, 3) := by decide +kernel
theorem dX12_line__57 : decode mX12_line_.cd 57 = .ok (.iconst (-1), 1) := by decide +kernel
theorem dX12_line__58 : decode mX12_line_.cd 58 = .ok (.if_icmp .eq 7, 3) := by decide +kernel
theorem dX12_line__61 : decode mX12_line_.cd 61 = .ok (.iconst 1, 1) := by decide +kernel
theorem dX12_line__62 : decode mX12_line_.cd 62 = .ok (.goto 4, 3) := by decide +kernel
theorem dX12_line__65 : decode mX12_line_.cd 65 = .ok (.iconst 0, 1) := by decide +kernel
theorem dX12_line__66 : decode mX12_line_.cd 66 = .ok (.iconst 1, 1) := by decide +kernel
theorem dX12_line__67 : decode mX12_line_.cd 67 = .ok (.invokevirtual 260, 3) := by decide +kernel
theorem dX12_line__70 : decode mX12_line_.cd 70 = .ok (.ifCond .ne 5, 3) := by decide +kernel
theorem dX12_line__73 : decode mX12_line_.cd 73 = .ok (.iconst 0, 1) := by decide +kernel
theorem dX12_line__74 : decode mX12_line_.cd 74 = .ok (.ireturn, 1) := by decide +kernel
theorem dX12_line__75 : decode mX12_line_.cd 75 = .ok (.iload_n 3, 1) := by decide +kernel
theorem dX12_line__76 : decode mX12_line_.cd 76 = .ok (.ifCond .ne 10, 3) := by decide +kernel
theorem dX12_line__79 : decode mX12_line_.cd 79 = .ok (.aload_n 0, 1) := by decide +kernel
theorem dX12_line__80 : decode mX12_line_.cd 80 = .ok (.getfield 402, 3) := by decide +kernel
theorem dX12_line__83 : decode mX12_line_.cd 83 = .ok (.goto 11, 3) := by decide +kernel
theorem dX12_line__86 : decode mX12_line_.cd 86 = .ok (.aload_n 0, 1) := by decide +kernel
theorem dX12_line__87 : decode mX12_line_.cd 87 = .ok (.getfield 86, 3) := by decide +kernel
theorem dX12_line__90 : decode mX12_line_.cd 90 = .ok (.iload_n 3, 1) := by decide +kernel
theorem dX12_line__91 : decode mX12_line_.cd 91 = .ok (.iconst 1, 1) := by decide +kernel
theorem dX12_line__92 : decode mX12_line_.cd 92 = .ok (.isub, 1) := by decide +kernel
theorem dX12_line__93 : decode mX12_line_.cd 93 = .ok (.iaload, 1) := by decide +kernel
theorem dX12_line__94 : decode mX12_line_.cd 94 = .ok (.ireturn, 1) := by decide +kernel
theorem dX12_line__95 : decode mX12_line_.cd 95 = .ok (.iconst 0, 1) := by decide +kernel
theorem dX12_line__96 : decode mX12_line_.cd 96 = .ok (.istore 4, 2) := by decide +kernel
theorem dX12_line__98 : decode mX12_line_.cd 98 = .ok (.aload_n 0, 1) := by decide +kernel
theorem dX12_line__99 : decode mX12_line_.cd 99 = .ok (.invokevirtual 393, 3) := by decide +kernel
theorem dX12_line__102 : decode mX12_line_.cd 102 = .ok (.istore 5, 2) := by decide +kernel
theorem dX12_line__104 : decode mX12_line_.cd 104 = .ok (.iload 5, 2) := by decide +kernel
theorem dX12_line__106 : decode mX12_line_.cd 106 = .ok (.ifCond .eq 49, 3) := by decide +kernel
theorem dX12_line__109 : decode mX12_line_.cd 109 = .ok (.aload_n 0, 1) := by decide +kernel
theorem dX12_line__110 : decode mX12_line_.cd 110 = .ok (.iload_n 1, 1) := by decide +kernel
theorem dX12_line__111 : decode mX12_line_.cd 111 = .ok (.invokevirtual 396, 3) := by decide +kernel
theorem dX12_line__114 : decode mX12_line_.cd 114 = .ok (.ifCond .eq 32, 3) := by decide +kernel
theorem dX12_line__117 : decode mX12_line_.cd 117 = .ok (.iload 4, 2) := by decide +kernel
theorem dX12_line__119 : decode mX12_line_.cd 119 = .ok (.iload_n 2, 1) := by decide +kernel
theorem dX12_line__120 : decode mX12_line_.cd 120 = .ok (.if_icmp .ne 23, 3) := by decide +kernel
theorem dX12_line__123 : decode mX12_line_.cd 123 = .ok (.iload_n 3, 1) := by decide +kernel
theorem dX12_line__124 : decode mX12_line_.cd 124 = .ok (.ifCond .ne 10, 3) := by decide +kernel
theorem dX12_line__127 : decode mX12_line_.cd 127 = .ok (.aload_n 0, 1) := by decide +kernel
theorem dX12_line__128 : decode mX12_line_.cd 128 = .ok (.getfield 353, 3) := by decide +kernel
theorem dX12_line__131 : decode mX12_line_.cd 131 = .ok (.goto 11, 3) := by decide +kernel
theorem dX12_line__134 : decode mX12_line_.cd 134 = .ok (.aload_n 0, 1) := by decide +kernel
theorem dX12_line__135 : decode mX12_line_.cd 135 = .ok (.getfield 77, 3) := by decide +kernel
theorem dX12_line__138 : decode mX12_line_.cd 138 = .ok (.iload_n 3, 1) := by decide +kernel
theorem dX12_line__139 : decode mX12_line_.cd 139 = .ok (.iconst 1, 1) := by decide +kernel
theorem dX12_line__140 : decode mX12_line_.cd 140 = .ok (.isub, 1) := by decide +kernel
theorem dX12_line__141 : decode mX12_line_.cd 141 = .ok (.iaload, 1) := by decide +kernel
theorem dX12_line__142 : decode mX12_line_.cd 142 = .ok (.ireturn, 1) := by decide +kernel
theorem dX12_line__143 : decode mX12_line_.cd 143 = .ok (.iinc 4 1, 3) := by decide +kernel
theorem dX12_line__146 : decode mX12_line_.cd 146 = .ok (.aload_n 0, 1) := by decide +kernel
theorem dX12_line__147 : decode mX12_line_.cd 147 = .ok (.invokevirtual 405, 3) := by decide +kernel
theorem dX12_line__150 : decode mX12_line_.cd 150 = .ok (.istore 5, 2) := by decide +kernel
theorem dX12_line__152 : decode mX12_line_.cd 152 = .ok (.goto (-48), 3) := by decide +kernel
theorem dX12_line__155 : decode mX12_line_.cd 155 = .ok (.aload_n 0, 1) := by decide +kernel
theorem dX12_line__156 : decode mX12_line_.cd 156 = .ok (.iconst 0, 1) := by decide +kernel
theorem dX12_line__157 : decode mX12_line_.cd 157 = .ok (.iconst 1, 1) := by decide +kernel
theorem dX12_line__158 : decode mX12_line_.cd 158 = .ok (.invokevirtual 260, 3) := by decide +kernel
theorem dX12_line__161 : decode mX12_line_.cd 161 = .ok (.pop, 1) := by decide +kernel
theorem dX12_line__162 : decode mX12_line_.cd 162 = .ok (.iconst 0, 1) := by decide +kernel
theorem dX12_line__163 : decode mX12_line_.cd 163 = .ok (.ireturn, 1) := by decide +kernel
theorem bX12_line__0 {fr M1 M2 b1 b2 : Nat} {Q : RS → Nat → AH → Prop} {h : AH} {l1 l2 l3 : Int} {x4 x5 : AV} {R : Int → AH → Prop}   (hS : Sp mX12_isHour true (fr - 1) 0 0 [zR 98, zI l1] 137 (up h 98 0 0) (rI R)) (hf : 1 ≤ fr := by omega) (kk : ∀ (x : Int) (h' : AH), R x h' → Wp mX12_line_ (kR fr M1 M2) Q (b1, b2) 10 [zR 98, zI l1, zI l2, zI l3, none, none] [zI x] 137 h') : Wp mX12_line_ (kR fr M1 M2) Q (b1, b2) 0 [zR 98, zI l1, zI l2, zI l3, x4, x5] [] 137 h := by
  refine s_fgt (fgt_c (fgt_c (fgt_c (fgt_c (fgt_n _ (fgt_n _ fgt_0)))))) ?_
  refine s_aload_n (x := 98) dX12_line__0 rfl ?_
  refine s_iconst dX12_line__1 ?_
  refine s_put (c := 98) dX12_line__2 lX12_136 e98 ?_
  refine s_aload_n (x := 98) dX12_line__5 rfl ?_
  refine s_iload_n (x := l1) dX12_line__6 rfl ?_
  exact s_callV (as := [zI l1]) (st := []) (o := 98) dX12_line__7 kX12_408 rfl ⟨12, 87, TX12, e98, rfl, by decide⟩ rfl rfl (Nat.le_of_ble_eq_true rfl) hS (show fr - 1 + 1 ≤ fr by omega) (Nat.zero_le _) (Nat.zero_le _) (fun v n' h' hP _ => by obtain ⟨x, e, rfl, hR⟩ := hP; cases e; exact kk x h' hR) (fun E n' h' _ z => (rI_nt _ _ _ z).elim)
theorem bX12_line__10 {fr M1 M2 b1 b2 : Nat} {Q : RS → Nat → AH → Prop} {h : AH} {l1 l2 l3 s0 : Int} {x4 x5 : AV}  (r1 : -2147483648 ≤ s0 ∧ s0 < 2147483648 := by omega) (kt : s0 = 0 → Wp mX12_line_ (kR fr M1 M2) Q (b1, b2) 40 [zR 98, zI l1, zI l2, zI l3, none, none] [] 137 h) (kf : ¬ s0 = 0 → Wp mX12_line_ (kR fr M1 M2) Q (b1, b2) 13 [zR 98, zI l1, zI l2, zI l3, none, none] [] 137 h) : Wp mX12_line_ (kR fr M1 M2) Q (b1, b2) 10 [zR 98, zI l1, zI l2, zI l3, x4, x5] [zI s0] 137 h := by
  refine s_fgt (fgt_c (fgt_c (fgt_c (fgt_c (fgt_n _ (fgt_n _ fgt_0)))))) ?_
  exact s_if_eq (tgt := 40) dX12_line__10 (by decide) r1 kt kf
theorem bX12_line__13 {fr M1 M2 b1 b2 : Nat} {Q : RS → Nat → AH → Prop} {h : AH} {l1 l2 l3 : Int} {x4 x5 : AV}  (r1 : -2147483648 ≤ l2 ∧ l2 < 2147483648 := by omega) (kt : l2 < (-1) → Wp mX12_line_ (kR fr M1 M2) Q (b1, b2) 32 [zR 98, zI l1, zI l2, zI l3, none, none] [zR 98] 137 h) (kf : (-1) ≤ l2 → Wp mX12_line_ (kR fr M1 M2) Q (b1, b2) 19 [zR 98, zI l1, zI l2, zI l3, none, none] [zR 98] 137 h) : Wp mX12_line_ (kR fr M1 M2) Q (b1, b2) 13 [zR 98, zI l1, zI l2, zI l3, x4, x5] [] 137 h := by
  refine s_fgt (fgt_c (fgt_c (fgt_c (fgt_c (fgt_n _ (fgt_n _ fgt_0)))))) ?_
  refine s_aload_n (x := 98) dX12_line__13 rfl ?_
  refine s_iload_n (x := l2) dX12_line__14 rfl ?_
  refine s_iconst dX12_line__15 ?_
  exact s_icmp_lt (tgt := 32) dX12_line__16 (by decide) r1 ⟨by decide, by decide⟩ kt kf
theorem bX12_line__19 {fr M1 M2 b1 b2 : Nat} {Q : RS → Nat → AH → Prop} {h : AH} {l1 l2 l3 : Int} {x4 x5 : AV} {R : Int → AH → Prop}   (hS : Sp mX12_within true (fr - 1) 0 0 [zI l3, zI 0, zI 3] 137 h (rI R)) (hf : 1 ≤ fr := by omega) (kk : ∀ (x : Int) (h' : AH), R x h' → Wp mX12_line_ (kR fr M1 M2) Q (b1, b2) 25 [zR 98, zI l1, zI l2, zI l3, none, none] [zI x, zR 98] 137 h') : Wp mX12_line_ (kR fr M1 M2) Q (b1, b2) 19 [zR 98, zI l1, zI l2, zI l3, x4, x5] [zR 98] 137 h := by
  refine s_fgt (fgt_c (fgt_c (fgt_c (fgt_c (fgt_n _ (fgt_n _ fgt_0)))))) ?_
  refine s_iload_n (x := l3) dX12_line__19 rfl ?_
  refine s_iconst dX12_line__20 ?_
  refine s_iconst dX12_line__21 ?_
  exact s_callS (as := [zI l3, zI 0, zI 3]) (st := [zR 98]) dX12_line__22 kX12_301 rfl rfl (Nat.le_of_ble_eq_true rfl) hS (show fr - 1 + 1 ≤ fr by omega) (Nat.zero_le _) (Nat.zero_le _) (fun v n' h' hP _ => by obtain ⟨x, e, rfl, hR⟩ := hP; cases e; exact kk x h' hR) (fun E n' h' _ z => (rI_nt _ _ _ z).elim)
theorem bX12_line__25 {fr M1 M2 b1 b2 : Nat} {Q : RS → Nat → AH → Prop} {h : AH} {l1 l2 l3 s0 : Int} {x4 x5 : AV}  (r1 : -2147483648 ≤ s0 ∧ s0 < 2147483648 := by omega) (kt : s0 = 0 → Wp mX12_line_ (kR fr M1 M2) Q (b1, b2) 32 [zR 98, zI l1, zI l2, zI l3, none, none] [zR 98] 137 h) (kf : ¬ s0 = 0 → Wp mX12_line_ (kR fr M1 M2) Q (b1, b2) 28 [zR 98, zI l1, zI l2, zI l3, none, none] [zR 98] 137 h) : Wp mX12_line_ (kR fr M1 M2) Q (b1, b2) 25 [zR 98, zI l1, zI l2, zI l3, x4, x5] [zI s0, zR 98] 137 h := by
  refine s_fgt (fgt_c (fgt_c (fgt_c (fgt_c (fgt_n _ (fgt_n _ fgt_0)))))) ?_
  exact s_if_eq (tgt := 32) dX12_line__25 (by decide) r1 kt kf
theorem bX12_line__28 {fr M1 M2 b1 b2 : Nat} {Q : RS → Nat → AH → Prop} {h : AH} {l1 l2 l3 : Int} {x4 x5 : AV}   (kk : Wp mX12_line_ (kR fr M1 M2) Q (b1, b2) 33 [zR 98, zI l1, zI l2, zI l3, none, none] [zI 1, zR 98] 137 h) : Wp mX12_line_ (kR fr M1 M2) Q (b1, b2) 28 [zR 98, zI l1, zI l2, zI l3, x4, x5] [zR 98] 137 h := by
  refine s_fgt (fgt_c (fgt_c (fgt_c (fgt_c (fgt_n _ (fgt_n _ fgt_0)))))) ?_
  refine s_iconst dX12_line__28 ?_
  exact s_goto (tgt := 33) dX12_line__29 (by decide) kk
theorem bX12_line__32 {fr M1 M2 b1 b2 : Nat} {Q : RS → Nat → AH → Prop} {h : AH} {l1 l2 l3 : Int} {x4 x5 : AV}   (kk : Wp mX12_line_ (kR fr M1 M2) Q (b1, b2) 33 [zR 98, zI l1, zI l2, zI l3, none, none] [zI 0, zR 98] 137 h) : Wp mX12_line_ (kR fr M1 M2) Q (b1, b2) 32 [zR 98, zI l1, zI l2, zI l3, x4, x5] [zR 98] 137 h := by
  refine s_fgt (fgt_c (fgt_c (fgt_c (fgt_c (fgt_n _ (fgt_n _ fgt_0)))))) ?_
  refine s_iconst dX12_line__32 ?_
  exact kk
theorem bX12_line__33 {fr M1 M2 b1 b2 : Nat} {Q : RS → Nat → AH → Prop} {h : AH} {l1 l2 l3 s0 : Int} {x4 x5 : AV} {R : Int → AH → Prop}   (hS : Sp mX12_right true (fr - 1) 0 0 [zR 98, zI s0, zI 1] 137 h (rI R)) (hf : 1 ≤ fr := by omega) (kk : ∀ (x : Int) (h' : AH), R x h' → Wp mX12_line_ (kR fr M1 M2) Q (b1, b2) 37 [zR 98, zI l1, zI l2, zI l3, none, none] [zI x] 137 h') : Wp mX12_line_ (kR fr M1 M2) Q (b1, b2) 33 [zR 98, zI l1, zI l2, zI l3, x4, x5] [zI s0, zR 98] 137 h := by
  refine s_fgt (fgt_c (fgt_c (fgt_c (fgt_c (fgt_n _ (fgt_n _ fgt_0)))))) ?_
  refine s_iconst dX12_line__33 ?_
  exact s_callV (as := [zI s0, zI 1]) (st := []) (o := 98) dX12_line__34 kX12_260 rfl ⟨12, 87, TX12, e98, rfl, by decide⟩ rfl rfl (Nat.le_of_ble_eq_true rfl) hS (show fr - 1 + 1 ≤ fr by omega) (Nat.zero_le _) (Nat.zero_le _) (fun v n' h' hP _ => by obtain ⟨x, e, rfl, hR⟩ := hP; cases e; exact kk x h' hR) (fun E n' h' _ z => (rI_nt _ _ _ z).elim)
theorem bX12_line__37 {fr M1 M2 b1 b2 : Nat} {Q : RS → Nat → AH → Prop} {h : AH} {l1 l2 l3 s0 : Int} {x4 x5 : AV}  (r1 : -2147483648 ≤ s0 ∧ s0 < 2147483648 := by omega) (kt : ¬ s0 = 0 → Wp mX12_line_ (kR fr M1 M2) Q (b1, b2) 42 [zR 98, zI l1, zI l2, zI l3, none, none] [] 137 h) (kf : s0 = 0 → Wp mX12_line_ (kR fr M1 M2) Q (b1, b2) 40 [zR 98, zI l1, zI l2, zI l3, none, none] [] 137 h) : Wp mX12_line_ (kR fr M1 M2) Q (b1, b2) 37 [zR 98, zI l1, zI l2, zI l3, x4, x5] [zI s0] 137 h := by
  refine s_fgt (fgt_c (fgt_c (fgt_c (fgt_c (fgt_n _ (fgt_n _ fgt_0)))))) ?_
  exact s_if_ne (tgt := 42) dX12_line__37 (by decide) r1 kt kf
theorem bX12_line__40 {fr M1 M2 b1 b2 : Nat} {Q : RS → Nat → AH → Prop} {h : AH} {x0 x1 x2 x3 x4 x5 : AV}   (hq : Q (.inl (some (zI 0))) 137 h) : Wp mX12_line_ (kR fr M1 M2) Q (b1, b2) 40 [x0, x1, x2, x3, x4, x5] [] 137 h := by
  refine s_fgt (fgt_n _ (fgt_n _ (fgt_n _ (fgt_n _ (fgt_n _ (fgt_n _ fgt_0)))))) ?_
  refine s_iconst dX12_line__40 ?_
  exact s_ireturn dX12_line__41 ⟨.int, rfl, rfl⟩ hq (fun z => by cases z)
theorem bX12_line__42 {fr M1 M2 b1 b2 : Nat} {Q : RS → Nat → AH → Prop} {h : AH} {l1 l2 l3 : Int} {x4 x5 : AV}  (r1 : -2147483648 ≤ l2 ∧ l2 < 2147483648 := by omega) (kt : ¬ l2 = (-1) → Wp mX12_line_ (kR fr M1 M2) Q (b1, b2) 95 [zR 98, zI l1, zI l2, zI l3, none, none] [] 137 h) (kf : l2 = (-1) → Wp mX12_line_ (kR fr M1 M2) Q (b1, b2) 47 [zR 98, zI l1, zI l2, zI l3, none, none] [] 137 h) : Wp mX12_line_ (kR fr M1 M2) Q (b1, b2) 42 [zR 98, zI l1, zI l2, zI l3, x4, x5] [] 137 h := by
  refine s_fgt (fgt_c (fgt_c (fgt_c (fgt_c (fgt_n _ (fgt_n _ fgt_0)))))) ?_
  refine s_iload_n (x := l2) dX12_line__42 rfl ?_
  refine s_iconst dX12_line__43 ?_
  exact s_icmp_ne (tgt := 95) dX12_line__44 (by decide) r1 ⟨by decide, by decide⟩ kt kf
theorem bX12_line__47 {fr M1 M2 b1 b2 : Nat} {Q : RS → Nat → AH → Prop} {h : AH} {l1 l3 : Int} {x2 x4 x5 : AV} {R : AH → Prop}   (hS : Sp mX12_goesThrough true (fr - 1) 0 0 [zR 98, zI l1] 137 h (rV R)) (hf : 1 ≤ fr := by omega) (kk : ∀ h' : AH, R h' → Wp mX12_line_ (kR fr M1 M2) Q (b1, b2) 52 [zR 98, zI l1, none, zI l3, none, none] [] 137 h') : Wp mX12_line_ (kR fr M1 M2) Q (b1, b2) 47 [zR 98, zI l1, x2, zI l3, x4, x5] [] 137 h := by
  refine s_fgt (fgt_c (fgt_c (fgt_n _ (fgt_c (fgt_n _ (fgt_n _ fgt_0)))))) ?_
  refine s_aload_n (x := 98) dX12_line__47 rfl ?_
  refine s_iload_n (x := l1) dX12_line__48 rfl ?_
  exact s_callV (as := [zI l1]) (st := []) (o := 98) dX12_line__49 kX12_411 rfl ⟨12, 87, TX12, e98, rfl, by decide⟩ rfl rfl (Nat.le_of_ble_eq_true rfl) hS (show fr - 1 + 1 ≤ fr by omega) (Nat.zero_le _) (Nat.zero_le _) (fun v n' h' hP _ => by obtain ⟨e, rfl, hR⟩ := hP; cases e; exact kk h' hR) (fun E n' h' _ z => (rV_nt _ _ _ z).elim)
theorem bX12_line__52 {fr M1 M2 b1 b2 : Nat} {Q : RS → Nat → AH → Prop} {h : AH} {l3 : Int} {x1 x2 x4 x5 : AV}  (r1 : -2147483648 ≤ h 98 61 ∧ h 98 61 < 2147483648 := by omega) (kt : h 98 61 = (-1) → Wp mX12_line_ (kR fr M1 M2) Q (b1, b2) 65 [zR 98, none, none, zI l3, none, none] [zR 98] 137 h) (kf : ¬ h 98 61 = (-1) → Wp mX12_line_ (kR fr M1 M2) Q (b1, b2) 61 [zR 98, none, none, zI l3, none, none] [zR 98] 137 h) : Wp mX12_line_ (kR fr M1 M2) Q (b1, b2) 52 [zR 98, x1, x2, zI l3, x4, x5] [] 137 h := by
  refine s_fgt (fgt_c (fgt_n _ (fgt_n _ (fgt_c (fgt_n _ (fgt_n _ fgt_0)))))) ?_
  refine s_aload_n (x := 98) dX12_line__52 rfl ?_
  refine s_aload_n (x := 98) dX12_line__53 rfl ?_
  refine s_get (c := 98) dX12_line__54 lX12_387 e98 (by decide) ?_
  refine s_iconst dX12_line__57 ?_
  exact s_icmp_eq (tgt := 65) dX12_line__58 (by decide) r1 ⟨by decide, by decide⟩ kt kf
theorem bX12_line__61 {fr M1 M2 b1 b2 : Nat} {Q : RS → Nat → AH → Prop} {h : AH} {l3 : Int} {x1 x2 x4 x5 : AV}   (kk : Wp mX12_line_ (kR fr M1 M2) Q (b1, b2) 66 [zR 98, none, none, zI l3, none, none] [zI 1, zR 98] 137 h) : Wp mX12_line_ (kR fr M1 M2) Q (b1, b2) 61 [zR 98, x1, x2, zI l3, x4, x5] [zR 98] 137 h := by
  refine s_fgt (fgt_c (fgt_n _ (fgt_n _ (fgt_c (fgt_n _ (fgt_n _ fgt_0)))))) ?_
  refine s_iconst dX12_line__61 ?_
  exact s_goto (tgt := 66) dX12_line__62 (by decide) kk
theorem bX12_line__65 {fr M1 M2 b1 b2 : Nat} {Q : RS → Nat → AH → Prop} {h : AH} {l3 : Int} {x1 x2 x4 x5 : AV}   (kk : Wp mX12_line_ (kR fr M1 M2) Q (b1, b2) 66 [zR 98, none, none, zI l3, none, none] [zI 0, zR 98] 137 h) : Wp mX12_line_ (kR fr M1 M2) Q (b1, b2) 65 [zR 98, x1, x2, zI l3, x4, x5] [zR 98] 137 h := by
  refine s_fgt (fgt_c (fgt_n _ (fgt_n _ (fgt_c (fgt_n _ (fgt_n _ fgt_0)))))) ?_
  refine s_iconst dX12_line__65 ?_
  exact kk
theorem bX12_line__66 {fr M1 M2 b1 b2 : Nat} {Q : RS → Nat → AH → Prop} {h : AH} {l3 s0 : Int} {x1 x2 x4 x5 : AV} {R : Int → AH → Prop}   (hS : Sp mX12_right true (fr - 1) 0 0 [zR 98, zI s0, zI 1] 137 h (rI R)) (hf : 1 ≤ fr := by omega) (kk : ∀ (x : Int) (h' : AH), R x h' → Wp mX12_line_ (kR fr M1 M2) Q (b1, b2) 70 [zR 98, none, none, zI l3, none, none] [zI x] 137 h') : Wp mX12_line_ (kR fr M1 M2) Q (b1, b2) 66 [zR 98, x1, x2, zI l3, x4, x5] [zI s0, zR 98] 137 h := by
  refine s_fgt (fgt_c (fgt_n _ (fgt_n _ (fgt_c (fgt_n _ (fgt_n _ fgt_0)))))) ?_
  refine s_iconst dX12_line__66 ?_
  exact s_callV (as := [zI s0, zI 1]) (st := []) (o := 98) dX12_line__67 kX12_260 rfl ⟨12, 87, TX12, e98, rfl, by decide⟩ rfl rfl (Nat.le_of_ble_eq_true rfl) hS (show fr - 1 + 1 ≤ fr by omega) (Nat.zero_le _) (Nat.zero_le _) (fun v n' h' hP _ => by obtain ⟨x, e, rfl, hR⟩ := hP; cases e; exact kk x h' hR) (fun E n' h' _ z => (rI_nt _ _ _ z).elim)
theorem bX12_line__70 {fr M1 M2 b1 b2 : Nat} {Q : RS → Nat → AH → Prop} {h : AH} {l3 s0 : Int} {x1 x2 x4 x5 : AV}  (r1 : -2147483648 ≤ s0 ∧ s0 < 2147483648 := by omega) (kt : ¬ s0 = 0 → Wp mX12_line_ (kR fr M1 M2) Q (b1, b2) 75 [zR 98, none, none, zI l3, none, none] [] 137 h) (kf : s0 = 0 → Wp mX12_line_ (kR fr M1 M2) Q (b1, b2) 73 [zR 98, none, none, zI l3, none, none] [] 137 h) : Wp mX12_line_ (kR fr M1 M2) Q (b1, b2) 70 [zR 98, x1, x2, zI l3, x4, x5] [zI s0] 137 h := by
  refine s_fgt (fgt_c (fgt_n _ (fgt_n _ (fgt_c (fgt_n _ (fgt_n _ fgt_0)))))) ?_
  exact s_if_ne (tgt := 75) dX12_line__70 (by decide) r1 kt kf
theorem bX12_line__73 {fr M1 M2 b1 b2 : Nat} {Q : RS → Nat → AH → Prop} {h : AH} {x0 x1 x2 x3 x4 x5 : AV}   (hq : Q (.inl (some (zI 0))) 137 h) : Wp mX12_line_ (kR fr M1 M2) Q (b1, b2) 73 [x0, x1, x2, x3, x4, x5] [] 137 h := by
  refine s_fgt (fgt_n _ (fgt_n _ (fgt_n _ (fgt_n _ (fgt_n _ (fgt_n _ fgt_0)))))) ?_
  refine s_iconst dX12_line__73 ?_
  exact s_ireturn dX12_line__74 ⟨.int, rfl, rfl⟩ hq (fun z => by cases z)
theorem bX12_line__75 {fr M1 M2 b1 b2 : Nat} {Q : RS → Nat → AH → Prop} {h : AH} {l3 : Int} {x1 x2 x4 x5 : AV}  (r1 : -2147483648 ≤ l3 ∧ l3 < 2147483648 := by omega) (kt : ¬ l3 = 0 → Wp mX12_line_ (kR fr M1 M2) Q (b1, b2) 86 [zR 98, none, none, zI l3, none, none] [] 137 h) (kf : l3 = 0 → Wp mX12_line_ (kR fr M1 M2) Q (b1, b2) 79 [zR 98, none, none, zI l3, none, none] [] 137 h) : Wp mX12_line_ (kR fr M1 M2) Q (b1, b2) 75 [zR 98, x1, x2, zI l3, x4, x5] [] 137 h := by
  refine s_fgt (fgt_c (fgt_n _ (fgt_n _ (fgt_c (fgt_n _ (fgt_n _ fgt_0)))))) ?_
  refine s_iload_n (x := l3) dX12_line__75 rfl ?_
  exact s_if_ne (tgt := 86) dX12_line__76 (by decide) r1 kt kf
theorem bX12_line__79 {fr M1 M2 b1 b2 : Nat} {Q : RS → Nat → AH → Prop} {h : AH} {x1 x2 x3 x4 x5 : AV}   (kk : Wp mX12_line_ (kR fr M1 M2) Q (b1, b2) 94 [zR 98, none, none, none, none, none] [zI (h 98 62)] 137 h) : Wp mX12_line_ (kR fr M1 M2) Q (b1, b2) 79 [zR 98, x1, x2, x3, x4, x5] [] 137 h := by
  refine s_fgt (fgt_c (fgt_n _ (fgt_n _ (fgt_n _ (fgt_n _ (fgt_n _ fgt_0)))))) ?_
  refine s_aload_n (x := 98) dX12_line__79 rfl ?_
  refine s_get (c := 98) dX12_line__80 lX12_402 e98 (by decide) ?_
  exact s_goto (tgt := 94) dX12_line__83 (by decide) kk
theorem bX12_line__86 {fr M1 M2 b1 b2 : Nat} {Q : RS → Nat → AH → Prop} {h : AH} {l3 : Int} {x1 x2 x4 x5 : AV}  (r1 : 0 ≤ l3 - 1 ∧ l3 - 1 < 3 := by omega) (kk : Wp mX12_line_ (kR fr M1 M2) Q (b1, b2) 94 [zR 98, none, none, zI l3, none, none] [zI (h 121 (l3 - 1))] 137 h) : Wp mX12_line_ (kR fr M1 M2) Q (b1, b2) 86 [zR 98, x1, x2, zI l3, x4, x5] [] 137 h := by
  refine s_fgt (fgt_c (fgt_n _ (fgt_n _ (fgt_c (fgt_n _ (fgt_n _ fgt_0)))))) ?_
  refine s_aload_n (x := 98) dX12_line__86 rfl ?_
  refine s_getFd (c := 98) (d := 121) dX12_line__87 lX12_86 e98 (Or.inl rfl) (by decide) (by decide) ?_
  refine s_iload_n (x := l3) dX12_line__90 rfl ?_
  refine s_iconst dX12_line__91 ?_
  refine s_isub dX12_line__92 ?_
  refine s_iald (c := 121) (i := l3 - 1) dX12_line__93 e121 r1.1 r1.2 ?_
  exact kk
theorem bX12_line__94 {fr M1 M2 b1 b2 : Nat} {Q : RS → Nat → AH → Prop} {h : AH} {s0 : Int} {x0 x1 x2 x3 x4 x5 : AV}   (hq : Q (.inl (some (zI s0))) 137 h) : Wp mX12_line_ (kR fr M1 M2) Q (b1, b2) 94 [x0, x1, x2, x3, x4, x5] [zI s0] 137 h := by
  refine s_fgt (fgt_n _ (fgt_n _ (fgt_n _ (fgt_n _ (fgt_n _ (fgt_n _ fgt_0)))))) ?_
  exact s_ireturn dX12_line__94 ⟨.int, rfl, rfl⟩ hq (fun z => by cases z)
theorem bX12_line__95 {fr M1 M2 b1 b2 : Nat} {Q : RS → Nat → AH → Prop} {h : AH} {l1 l2 l3 : Int} {x4 x5 : AV} {R : Int → AH → Prop}   (hS : Sp mX12_firstLine true (fr - 1) 0 0 [zR 98] 137 h (rI R)) (hf : 1 ≤ fr := by omega) (kk : ∀ (x : Int) (h' : AH), R x h' → Wp mX12_line_ (kR fr M1 M2) Q (b1, b2) 102 [zR 98, zI l1, zI l2, zI l3, zI 0, none] [zI x] 137 h') : Wp mX12_line_ (kR fr M1 M2) Q (b1, b2) 95 [zR 98, zI l1, zI l2, zI l3, x4, x5] [] 137 h := by
  refine s_fgt (fgt_c (fgt_c (fgt_c (fgt_c (fgt_n _ (fgt_n _ fgt_0)))))) ?_
  refine s_iconst dX12_line__95 ?_
  refine s_istore dX12_line__96 rfl (by decide) ?_
  refine s_aload_n (x := 98) dX12_line__98 rfl ?_
  exact s_callV (as := []) (st := []) (o := 98) dX12_line__99 kX12_393 rfl ⟨12, 87, TX12, e98, rfl, by decide⟩ rfl rfl (Nat.le_of_ble_eq_true rfl) hS (show fr - 1 + 1 ≤ fr by omega) (Nat.zero_le _) (Nat.zero_le _) (fun v n' h' hP _ => by obtain ⟨x, e, rfl, hR⟩ := hP; cases e; exact kk x h' hR) (fun E n' h' _ z => (rI_nt _ _ _ z).elim)
theorem bX12_line__102 {fr M1 M2 b1 b2 : Nat} {Q : RS → Nat → AH → Prop} {h : AH} {l1 l2 l3 l4 s0 : Int} {x5 : AV}   (kk : Wp mX12_line_ (kR fr M1 M2) Q (b1, b2) 104 [zR 98, zI l1, zI l2, zI l3, zI l4, zI s0] [] 137 h) : Wp mX12_line_ (kR fr M1 M2) Q (b1, b2) 102 [zR 98, zI l1, zI l2, zI l3, zI l4, x5] [zI s0] 137 h := by
  refine s_fgt (fgt_c (fgt_c (fgt_c (fgt_c (fgt_c (fgt_n _ fgt_0)))))) ?_
  refine s_istore dX12_line__102 rfl (by decide) ?_
  exact kk
theorem bX12_line__104 {fr M1 M2 b1 b2 : Nat} {Q : RS → Nat → AH → Prop} {h : AH} {l1 l2 l3 l4 l5 : Int}  (r1 : -2147483648 ≤ l5 ∧ l5 < 2147483648 := by omega) (kt : l5 = 0 → Wp mX12_line_ (kR fr M1 M2) Q (b1, b2) 155 [zR 98, zI l1, zI l2, zI l3, zI l4, zI l5] [] 137 h) (kf : ¬ l5 = 0 → Wp mX12_line_ (kR fr M1 M2) Q (b1, b2) 109 [zR 98, zI l1, zI l2, zI l3, zI l4, zI l5] [] 137 h) : Wp mX12_line_ (kR fr M1 M2) Q (b1, b2) 104 [zR 98, zI l1, zI l2, zI l3, zI l4, zI l5] [] 137 h := by
  refine s_iload (x := l5) dX12_line__104 rfl ?_
  exact s_if_eq (tgt := 155) dX12_line__106 (by decide) r1 kt kf
theorem bX12_line__109 {fr M1 M2 b1 b2 : Nat} {Q : RS → Nat → AH → Prop} {h : AH} {l1 l2 l3 l4 : Int} {x5 : AV} {R : Int → AH → Prop}   (hS : Sp mX12_answers true (fr - 1) 0 0 [zR 98, zI l1] 137 h (rI R)) (hf : 1 ≤ fr := by omega) (kk : ∀ (x : Int) (h' : AH), R x h' → Wp mX12_line_ (kR fr M1 M2) Q (b1, b2) 114 [zR 98, zI l1, zI l2, zI l3, zI l4, none] [zI x] 137 h') : Wp mX12_line_ (kR fr M1 M2) Q (b1, b2) 109 [zR 98, zI l1, zI l2, zI l3, zI l4, x5] [] 137 h := by
  refine s_fgt (fgt_c (fgt_c (fgt_c (fgt_c (fgt_c (fgt_n _ fgt_0)))))) ?_
  refine s_aload_n (x := 98) dX12_line__109 rfl ?_
  refine s_iload_n (x := l1) dX12_line__110 rfl ?_
  exact s_callV (as := [zI l1]) (st := []) (o := 98) dX12_line__111 kX12_396 rfl ⟨12, 87, TX12, e98, rfl, by decide⟩ rfl rfl (Nat.le_of_ble_eq_true rfl) hS (show fr - 1 + 1 ≤ fr by omega) (Nat.zero_le _) (Nat.zero_le _) (fun v n' h' hP _ => by obtain ⟨x, e, rfl, hR⟩ := hP; cases e; exact kk x h' hR) (fun E n' h' _ z => (rI_nt _ _ _ z).elim)
theorem bX12_line__114 {fr M1 M2 b1 b2 : Nat} {Q : RS → Nat → AH → Prop} {h : AH} {l1 l2 l3 l4 s0 : Int} {x5 : AV}  (r1 : -2147483648 ≤ s0 ∧ s0 < 2147483648 := by omega) (kt : s0 = 0 → Wp mX12_line_ (kR fr M1 M2) Q (b1, b2) 146 [zR 98, zI l1, zI l2, zI l3, zI l4, none] [] 137 h) (kf : ¬ s0 = 0 → Wp mX12_line_ (kR fr M1 M2) Q (b1, b2) 117 [zR 98, zI l1, zI l2, zI l3, zI l4, none] [] 137 h) : Wp mX12_line_ (kR fr M1 M2) Q (b1, b2) 114 [zR 98, zI l1, zI l2, zI l3, zI l4, x5] [zI s0] 137 h := by
  refine s_fgt (fgt_c (fgt_c (fgt_c (fgt_c (fgt_c (fgt_n _ fgt_0)))))) ?_
  exact s_if_eq (tgt := 146) dX12_line__114 (by decide) r1 kt kf
theorem bX12_line__117 {fr M1 M2 b1 b2 : Nat} {Q : RS → Nat → AH → Prop} {h : AH} {l1 l2 l3 l4 : Int} {x5 : AV}  (r1 : -2147483648 ≤ l4 ∧ l4 < 2147483648 := by omega) (r2 : -2147483648 ≤ l2 ∧ l2 < 2147483648 := by omega) (kt : ¬ l4 = l2 → Wp mX12_line_ (kR fr M1 M2) Q (b1, b2) 143 [zR 98, zI l1, zI l2, zI l3, zI l4, none] [] 137 h) (kf : l4 = l2 → Wp mX12_line_ (kR fr M1 M2) Q (b1, b2) 123 [zR 98, zI l1, zI l2, zI l3, zI l4, none] [] 137 h) : Wp mX12_line_ (kR fr M1 M2) Q (b1, b2) 117 [zR 98, zI l1, zI l2, zI l3, zI l4, x5] [] 137 h := by
  refine s_fgt (fgt_c (fgt_c (fgt_c (fgt_c (fgt_c (fgt_n _ fgt_0)))))) ?_
  refine s_iload (x := l4) dX12_line__117 rfl ?_
  refine s_iload_n (x := l2) dX12_line__119 rfl ?_
  exact s_icmp_ne (tgt := 143) dX12_line__120 (by decide) r1 r2 kt kf
theorem bX12_line__123 {fr M1 M2 b1 b2 : Nat} {Q : RS → Nat → AH → Prop} {h : AH} {l3 : Int} {x1 x2 x4 x5 : AV}  (r1 : -2147483648 ≤ l3 ∧ l3 < 2147483648 := by omega) (kt : ¬ l3 = 0 → Wp mX12_line_ (kR fr M1 M2) Q (b1, b2) 134 [zR 98, none, none, zI l3, none, none] [] 137 h) (kf : l3 = 0 → Wp mX12_line_ (kR fr M1 M2) Q (b1, b2) 127 [zR 98, none, none, zI l3, none, none] [] 137 h) : Wp mX12_line_ (kR fr M1 M2) Q (b1, b2) 123 [zR 98, x1, x2, zI l3, x4, x5] [] 137 h := by
  refine s_fgt (fgt_c (fgt_n _ (fgt_n _ (fgt_c (fgt_n _ (fgt_n _ fgt_0)))))) ?_
  refine s_iload_n (x := l3) dX12_line__123 rfl ?_
  exact s_if_ne (tgt := 134) dX12_line__124 (by decide) r1 kt kf
theorem bX12_line__127 {fr M1 M2 b1 b2 : Nat} {Q : RS → Nat → AH → Prop} {h : AH} {x1 x2 x3 x4 x5 : AV}   (kk : Wp mX12_line_ (kR fr M1 M2) Q (b1, b2) 142 [zR 98, none, none, none, none, none] [zI (h 98 53)] 137 h) : Wp mX12_line_ (kR fr M1 M2) Q (b1, b2) 127 [zR 98, x1, x2, x3, x4, x5] [] 137 h := by
  refine s_fgt (fgt_c (fgt_n _ (fgt_n _ (fgt_n _ (fgt_n _ (fgt_n _ fgt_0)))))) ?_
  refine s_aload_n (x := 98) dX12_line__127 rfl ?_
  refine s_get (c := 98) dX12_line__128 lX12_353 e98 (by decide) ?_
  exact s_goto (tgt := 142) dX12_line__131 (by decide) kk
theorem bX12_line__134 {fr M1 M2 b1 b2 : Nat} {Q : RS → Nat → AH → Prop} {h : AH} {l3 : Int} {x1 x2 x4 x5 : AV}  (r1 : 0 ≤ l3 - 1 ∧ l3 - 1 < 3 := by omega) (kk : Wp mX12_line_ (kR fr M1 M2) Q (b1, b2) 142 [zR 98, none, none, zI l3, none, none] [zI (h 118 (l3 - 1))] 137 h) : Wp mX12_line_ (kR fr M1 M2) Q (b1, b2) 134 [zR 98, x1, x2, zI l3, x4, x5] [] 137 h := by
  refine s_fgt (fgt_c (fgt_n _ (fgt_n _ (fgt_c (fgt_n _ (fgt_n _ fgt_0)))))) ?_
  refine s_aload_n (x := 98) dX12_line__134 rfl ?_
  refine s_getFd (c := 98) (d := 118) dX12_line__135 lX12_77 e98 (Or.inl rfl) (by decide) (by decide) ?_
  refine s_iload_n (x := l3) dX12_line__138 rfl ?_
  refine s_iconst dX12_line__139 ?_
  refine s_isub dX12_line__140 ?_
  refine s_iald (c := 118) (i := l3 - 1) dX12_line__141 e118 r1.1 r1.2 ?_
  exact kk
theorem bX12_line__142 {fr M1 M2 b1 b2 : Nat} {Q : RS → Nat → AH → Prop} {h : AH} {s0 : Int} {x0 x1 x2 x3 x4 x5 : AV}   (hq : Q (.inl (some (zI s0))) 137 h) : Wp mX12_line_ (kR fr M1 M2) Q (b1, b2) 142 [x0, x1, x2, x3, x4, x5] [zI s0] 137 h := by
  refine s_fgt (fgt_n _ (fgt_n _ (fgt_n _ (fgt_n _ (fgt_n _ (fgt_n _ fgt_0)))))) ?_
  exact s_ireturn dX12_line__142 ⟨.int, rfl, rfl⟩ hq (fun z => by cases z)
theorem bX12_line__143 {fr M1 M2 b1 b2 : Nat} {Q : RS → Nat → AH → Prop} {h : AH} {l1 l2 l3 l4 : Int} {x5 : AV}   (kk : Wp mX12_line_ (kR fr M1 M2) Q (b1, b2) 146 [zR 98, zI l1, zI l2, zI l3, zI (l4 + 1), none] [] 137 h) : Wp mX12_line_ (kR fr M1 M2) Q (b1, b2) 143 [zR 98, zI l1, zI l2, zI l3, zI l4, x5] [] 137 h := by
  refine s_fgt (fgt_c (fgt_c (fgt_c (fgt_c (fgt_c (fgt_n _ fgt_0)))))) ?_
  refine s_iinc (x := l4) dX12_line__143 rfl rfl (by decide) ?_
  exact kk
theorem bX12_line__146 {fr M1 M2 b1 b2 : Nat} {Q : RS → Nat → AH → Prop} {h : AH} {l1 l2 l3 l4 : Int} {x5 : AV} {R : Int → AH → Prop}   (hS : Sp mX12_nextLine true (fr - 1) 0 0 [zR 98] 137 h (rI R)) (hf : 1 ≤ fr := by omega) (kk : ∀ (x : Int) (h' : AH), R x h' → Wp mX12_line_ (kR fr M1 M2) Q (b1, b2) 150 [zR 98, zI l1, zI l2, zI l3, zI l4, none] [zI x] 137 h') : Wp mX12_line_ (kR fr M1 M2) Q (b1, b2) 146 [zR 98, zI l1, zI l2, zI l3, zI l4, x5] [] 137 h := by
  refine s_fgt (fgt_c (fgt_c (fgt_c (fgt_c (fgt_c (fgt_n _ fgt_0)))))) ?_
  refine s_aload_n (x := 98) dX12_line__146 rfl ?_
  exact s_callV (as := []) (st := []) (o := 98) dX12_line__147 kX12_405 rfl ⟨12, 87, TX12, e98, rfl, by decide⟩ rfl rfl (Nat.le_of_ble_eq_true rfl) hS (show fr - 1 + 1 ≤ fr by omega) (Nat.zero_le _) (Nat.zero_le _) (fun v n' h' hP _ => by obtain ⟨x, e, rfl, hR⟩ := hP; cases e; exact kk x h' hR) (fun E n' h' _ z => (rI_nt _ _ _ z).elim)
theorem bX12_line__150 {fr M1 M2 b1 b2 : Nat} {Q : RS → Nat → AH → Prop} {h : AH} {l1 l2 l3 l4 s0 : Int} {x5 : AV}   (kk : Wp mX12_line_ (kR fr M1 M2) Q (b1, b2) 104 [zR 98, zI l1, zI l2, zI l3, zI l4, zI s0] [] 137 h) : Wp mX12_line_ (kR fr M1 M2) Q (b1, b2) 150 [zR 98, zI l1, zI l2, zI l3, zI l4, x5] [zI s0] 137 h := by
  refine s_fgt (fgt_c (fgt_c (fgt_c (fgt_c (fgt_c (fgt_n _ fgt_0)))))) ?_
  refine s_istore dX12_line__150 rfl (by decide) ?_
  exact s_goto (tgt := 104) dX12_line__152 (by decide) kk
theorem bX12_line__155 {fr M1 M2 b1 b2 : Nat} {Q : RS → Nat → AH → Prop} {h : AH} {x1 x2 x3 x4 x5 : AV} {R : Int → AH → Prop}   (hS : Sp mX12_right true (fr - 1) 0 0 [zR 98, zI 0, zI 1] 137 h (rI R)) (hf : 1 ≤ fr := by omega) (kk : ∀ (x : Int) (h' : AH), R x h' → Wp mX12_line_ (kR fr M1 M2) Q (b1, b2) 161 [zR 98, none, none, none, none, none] [zI x] 137 h') : Wp mX12_line_ (kR fr M1 M2) Q (b1, b2) 155 [zR 98, x1, x2, x3, x4, x5] [] 137 h := by
  refine s_fgt (fgt_c (fgt_n _ (fgt_n _ (fgt_n _ (fgt_n _ (fgt_n _ fgt_0)))))) ?_
  refine s_aload_n (x := 98) dX12_line__155 rfl ?_
  refine s_iconst dX12_line__156 ?_
  refine s_iconst dX12_line__157 ?_
  exact s_callV (as := [zI 0, zI 1]) (st := []) (o := 98) dX12_line__158 kX12_260 rfl ⟨12, 87, TX12, e98, rfl, by decide⟩ rfl rfl (Nat.le_of_ble_eq_true rfl) hS (show fr - 1 + 1 ≤ fr by omega) (Nat.zero_le _) (Nat.zero_le _) (fun v n' h' hP _ => by obtain ⟨x, e, rfl, hR⟩ := hP; cases e; exact kk x h' hR) (fun E n' h' _ z => (rI_nt _ _ _ z).elim)
theorem bX12_line__161 {fr M1 M2 b1 b2 : Nat} {Q : RS → Nat → AH → Prop} {h : AH} {s0 : Int} {x0 x1 x2 x3 x4 x5 : AV}   (hq : Q (.inl (some (zI 0))) 137 h) : Wp mX12_line_ (kR fr M1 M2) Q (b1, b2) 161 [x0, x1, x2, x3, x4, x5] [zI s0] 137 h := by
  refine s_fgt (fgt_n _ (fgt_n _ (fgt_n _ (fgt_n _ (fgt_n _ (fgt_n _ fgt_0)))))) ?_
  refine s_pop dX12_line__161 rfl ?_
  refine s_iconst dX12_line__162 ?_
  exact s_ireturn dX12_line__163 ⟨.int, rfl, rfl⟩ hq (fun z => by cases z)
theorem dX12_stillOf_0 : decode mX12_stillOf.cd 0 = .ok (.iconst 0, 1) := by decide +kernel
theorem dX12_stillOf_1 : decode mX12_stillOf.cd 1 = .ok (.istore 5, 2) := by decide +kernel
theorem dX12_stillOf_3 : decode mX12_stillOf.cd 3 = .ok (.aload_n 0, 1) := by decide +kernel
theorem dX12_stillOf_4 : decode mX12_stillOf.cd 4 = .ok (.invokevirtual 393, 3) := by decide +kernel
theorem dX12_stillOf_7 : decode mX12_stillOf.cd 7 = .ok (.istore 6, 2) := by decide +kernel
theorem dX12_stillOf_9 : decode mX12_stillOf.cd 9 = .ok (.iload 6, 2) := by decide +kernel
theorem dX12_stillOf_11 : decode mX12_stillOf.cd 11 = .ok (.ifCond .eq 65, 3) := by decide +kernel
theorem dX12_stillOf_14 : decode mX12_stillOf.cd 14 = .ok (.iload 5, 2) := by decide +kernel
theorem dX12_stillOf_16 : decode mX12_stillOf.cd 16 = .ok (.iload 4, 2) := by decide +kernel
theorem dX12_stillOf_18 : decode mX12_stillOf.cd 18 = .ok (.if_icmp .ge 58, 3) := by decide +kernel
theorem dX12_stillOf_21 : decode mX12_stillOf.cd 21 = .ok (.aload_n 0, 1) := by decide +kernel
theorem dX12_stillOf_22 : decode mX12_stillOf.cd 22 = .ok (.iload_n 1, 1) := by decide +kernel
theorem dX12_stillOf_23 : decode mX12_stillOf.cd 23 = .ok (.invokevirtual 396, 3) := by decide +kernel
theorem dX12_stillOf_26 : decode mX12_stillOf.cd 26 = .ok (.ifCond .eq 41, 3) := by decide +kernel
theorem dX12_stillOf_29 : decode mX12_stillOf.cd 29 = .ok (.aload_n 0, 1) := by decide +kernel
theorem dX12_stillOf_30 : decode mX12_stillOf.cd 30 = .ok (.iload_n 2, 1) := by decide +kernel
theorem dX12_stillOf_31 : decode mX12_stillOf.cd 31 = .ok (.putfield 322, 3) := by decide +kernel
theorem dX12_stillOf_34 : decode mX12_stillOf.cd 34 = .ok (.aload_n 0, 1) := by decide +kernel
theorem dX12_stillOf_35 : decode mX12_stillOf.cd 35 = .ok (.iload_n 3, 1) := by decide +kernel
theorem dX12_stillOf_36 : decode mX12_stillOf.cd 36 = .ok (.putfield 68, 3) := by decide +kernel
theorem dX12_stillOf_39 : decode mX12_stillOf.cd 39 = .ok (.iload 5, 2) := by decide +kernel
theorem dX12_stillOf_41 : decode mX12_stillOf.cd 41 = .ok (.aload_n 0, 1) := by decide +kernel
theorem dX12_stillOf_42 : decode mX12_stillOf.cd 42 = .ok (.iload_n 1, 1) := by decide +kernel
theorem dX12_stillOf_43 : decode mX12_stillOf.cd 43 = .ok (.invokevirtual 396, 3) := by decide +kernel
theorem dX12_stillOf_46 : decode mX12_stillOf.cd 46 = .ok (.ifCond .eq 7, 3) := by decide +kernel
theorem dX12_stillOf_49 : decode mX12_stillOf.cd 49 = .ok (.iconst 1, 1) := by decide +kernel
theorem dX12_stillOf_50 : decode mX12_stillOf.cd 50 = .ok (.goto 4, 3) := by decide +kernel
theorem dX12_stillOf_53 : decode mX12_stillOf.cd 53 = .ok (.iconst 0, 1) := by decide +kernel
theorem dX12_stillOf_54 : decode mX12_stillOf.cd 54 = .ok (.iadd, 1) := by decide +kernel
theorem dX12_stillOf_55 : decode mX12_stillOf.cd 55 = .ok (.istore 5, 2) := by decide +kernel
theorem dX12_stillOf_57 : decode mX12_stillOf.cd 57 = .ok (.aload_n 0, 1) := by decide +kernel
theorem dX12_stillOf_58 : decode mX12_stillOf.cd 58 = .ok (.iconst 0, 1) := by decide +kernel
theorem dX12_stillOf_59 : decode mX12_stillOf.cd 59 = .ok (.putfield 322, 3) := by decide +kernel
theorem dX12_stillOf_62 : decode mX12_stillOf.cd 62 = .ok (.aload_n 0, 1) := by decide +kernel
theorem dX12_stillOf_63 : decode mX12_stillOf.cd 63 = .ok (.iconst (-1), 1) := by decide +kernel
theorem dX12_stillOf_64 : decode mX12_stillOf.cd 64 = .ok (.putfield 68, 3) := by decide +kernel
theorem dX12_stillOf_67 : decode mX12_stillOf.cd 67 = .ok (.aload_n 0, 1) := by decide +kernel
theorem dX12_stillOf_68 : decode mX12_stillOf.cd 68 = .ok (.invokevirtual 405, 3) := by decide +kernel
theorem dX12_stillOf_71 : decode mX12_stillOf.cd 71 = .ok (.istore 6, 2) := by decide +kernel
theorem dX12_stillOf_73 : decode mX12_stillOf.cd 73 = .ok (.goto (-64), 3) := by decide +kernel
theorem dX12_stillOf_76 : decode mX12_stillOf.cd 76 = .ok (.iload 5, 2) := by decide +kernel
theorem dX12_stillOf_78 : decode mX12_stillOf.cd 78 = .ok (.ireturn, 1) := by decide +kernel
theorem bX12_stillOf_0 {fr M1 M2 b1 b2 : Nat} {Q : RS → Nat → AH → Prop} {h : AH} {l1 l2 l3 l4 : Int} {x5 x6 : AV} {R : Int → AH → Prop}   (hS : Sp mX12_firstLine true (fr - 1) 0 0 [zR 98] 137 h (rI R)) (hf : 1 ≤ fr := by omega) (kk : ∀ (x : Int) (h' : AH), R x h' → Wp mX12_stillOf (kR fr M1 M2) Q (b1, b2) 7 [zR 98, zI l1, zI l2, zI l3, zI l4, zI 0, none] [zI x] 137 h') : Wp mX12_stillOf (kR fr M1 M2) Q (b1, b2) 0 [zR 98, zI l1, zI l2, zI l3, zI l4, x5, x6] [] 137 h := by
  refine s_fgt (fgt_c (fgt_c (fgt_c (fgt_c (fgt_c (fgt_n _ (fgt_n _ fgt_0))))))) ?_
  refine s_iconst dX12_stillOf_0 ?_
  refine s_istore dX12_stillOf_1 rfl (by decide) ?_
  refine s_aload_n (x := 98) dX12_stillOf_3 rfl ?_
  exact s_callV (as := []) (st := []) (o := 98) dX12_stillOf_4 kX12_393 rfl ⟨12, 87, TX12, e98, rfl, by decide⟩ rfl rfl (Nat.le_of_ble_eq_true rfl) hS (show fr - 1 + 1 ≤ fr by omega) (Nat.zero_le _) (Nat.zero_le _) (fun v n' h' hP _ => by obtain ⟨x, e, rfl, hR⟩ := hP; cases e; exact kk x h' hR) (fun E n' h' _ z => (rI_nt _ _ _ z).elim)
theorem bX12_stillOf_7 {fr M1 M2 b1 b2 : Nat} {Q : RS → Nat → AH → Prop} {h : AH} {l1 l2 l3 l4 l5 s0 : Int} {x6 : AV}   (kk : Wp mX12_stillOf (kR fr M1 M2) Q (b1, b2) 9 [zR 98, zI l1, zI l2, zI l3, zI l4, zI l5, zI s0] [] 137 h) : Wp mX12_stillOf (kR fr M1 M2) Q (b1, b2) 7 [zR 98, zI l1, zI l2, zI l3, zI l4, zI l5, x6] [zI s0] 137 h := by
  refine s_fgt (fgt_c (fgt_c (fgt_c (fgt_c (fgt_c (fgt_c (fgt_n _ fgt_0))))))) ?_
  refine s_istore dX12_stillOf_7 rfl (by decide) ?_
  exact kk
theorem bX12_stillOf_9 {fr M1 M2 b1 b2 : Nat} {Q : RS → Nat → AH → Prop} {h : AH} {l1 l2 l3 l4 l5 l6 : Int}  (r1 : -2147483648 ≤ l6 ∧ l6 < 2147483648 := by omega) (kt : l6 = 0 → Wp mX12_stillOf (kR fr M1 M2) Q (b1, b2) 76 [zR 98, zI l1, zI l2, zI l3, zI l4, zI l5, zI l6] [] 137 h) (kf : ¬ l6 = 0 → Wp mX12_stillOf (kR fr M1 M2) Q (b1, b2) 14 [zR 98, zI l1, zI l2, zI l3, zI l4, zI l5, zI l6] [] 137 h) : Wp mX12_stillOf (kR fr M1 M2) Q (b1, b2) 9 [zR 98, zI l1, zI l2, zI l3, zI l4, zI l5, zI l6] [] 137 h := by
  refine s_iload (x := l6) dX12_stillOf_9 rfl ?_
  exact s_if_eq (tgt := 76) dX12_stillOf_11 (by decide) r1 kt kf
theorem bX12_stillOf_14 {fr M1 M2 b1 b2 : Nat} {Q : RS → Nat → AH → Prop} {h : AH} {l1 l2 l3 l4 l5 : Int} {x6 : AV}  (r1 : -2147483648 ≤ l5 ∧ l5 < 2147483648 := by omega) (r2 : -2147483648 ≤ l4 ∧ l4 < 2147483648 := by omega) (kt : l4 ≤ l5 → Wp mX12_stillOf (kR fr M1 M2) Q (b1, b2) 76 [zR 98, zI l1, zI l2, zI l3, zI l4, zI l5, none] [] 137 h) (kf : l5 < l4 → Wp mX12_stillOf (kR fr M1 M2) Q (b1, b2) 21 [zR 98, zI l1, zI l2, zI l3, zI l4, zI l5, none] [] 137 h) : Wp mX12_stillOf (kR fr M1 M2) Q (b1, b2) 14 [zR 98, zI l1, zI l2, zI l3, zI l4, zI l5, x6] [] 137 h := by
  refine s_fgt (fgt_c (fgt_c (fgt_c (fgt_c (fgt_c (fgt_c (fgt_n _ fgt_0))))))) ?_
  refine s_iload (x := l5) dX12_stillOf_14 rfl ?_
  refine s_iload (x := l4) dX12_stillOf_16 rfl ?_
  exact s_icmp_ge (tgt := 76) dX12_stillOf_18 (by decide) r1 r2 kt kf
theorem bX12_stillOf_21 {fr M1 M2 b1 b2 : Nat} {Q : RS → Nat → AH → Prop} {h : AH} {l1 l2 l3 l4 l5 : Int} {x6 : AV} {R : Int → AH → Prop}   (hS : Sp mX12_answers true (fr - 1) 0 0 [zR 98, zI l1] 137 h (rI R)) (hf : 1 ≤ fr := by omega) (kk : ∀ (x : Int) (h' : AH), R x h' → Wp mX12_stillOf (kR fr M1 M2) Q (b1, b2) 26 [zR 98, zI l1, zI l2, zI l3, zI l4, zI l5, none] [zI x] 137 h') : Wp mX12_stillOf (kR fr M1 M2) Q (b1, b2) 21 [zR 98, zI l1, zI l2, zI l3, zI l4, zI l5, x6] [] 137 h := by
  refine s_fgt (fgt_c (fgt_c (fgt_c (fgt_c (fgt_c (fgt_c (fgt_n _ fgt_0))))))) ?_
  refine s_aload_n (x := 98) dX12_stillOf_21 rfl ?_
  refine s_iload_n (x := l1) dX12_stillOf_22 rfl ?_
  exact s_callV (as := [zI l1]) (st := []) (o := 98) dX12_stillOf_23 kX12_396 rfl ⟨12, 87, TX12, e98, rfl, by decide⟩ rfl rfl (Nat.le_of_ble_eq_true rfl) hS (show fr - 1 + 1 ≤ fr by omega) (Nat.zero_le _) (Nat.zero_le _) (fun v n' h' hP _ => by obtain ⟨x, e, rfl, hR⟩ := hP; cases e; exact kk x h' hR) (fun E n' h' _ z => (rI_nt _ _ _ z).elim)
theorem bX12_stillOf_26 {fr M1 M2 b1 b2 : Nat} {Q : RS → Nat → AH → Prop} {h : AH} {l1 l2 l3 l4 l5 s0 : Int} {x6 : AV}  (r1 : -2147483648 ≤ s0 ∧ s0 < 2147483648 := by omega) (kt : s0 = 0 → Wp mX12_stillOf (kR fr M1 M2) Q (b1, b2) 67 [zR 98, zI l1, zI l2, zI l3, zI l4, zI l5, none] [] 137 h) (kf : ¬ s0 = 0 → Wp mX12_stillOf (kR fr M1 M2) Q (b1, b2) 29 [zR 98, zI l1, zI l2, zI l3, zI l4, zI l5, none] [] 137 h) : Wp mX12_stillOf (kR fr M1 M2) Q (b1, b2) 26 [zR 98, zI l1, zI l2, zI l3, zI l4, zI l5, x6] [zI s0] 137 h := by
  refine s_fgt (fgt_c (fgt_c (fgt_c (fgt_c (fgt_c (fgt_c (fgt_n _ fgt_0))))))) ?_
  exact s_if_eq (tgt := 67) dX12_stillOf_26 (by decide) r1 kt kf
theorem bX12_stillOf_29 {fr M1 M2 b1 b2 : Nat} {Q : RS → Nat → AH → Prop} {h : AH} {l1 l2 l3 l4 l5 : Int} {x6 : AV} {R : Int → AH → Prop}   (hS : Sp mX12_answers true (fr - 1) 0 0 [zR 98, zI l1] 137 (up (up h 98 46 l2) 98 47 l3) (rI R)) (hf : 1 ≤ fr := by omega) (kk : ∀ (x : Int) (h' : AH), R x h' → Wp mX12_stillOf (kR fr M1 M2) Q (b1, b2) 46 [zR 98, zI l1, zI l2, zI l3, zI l4, zI l5, none] [zI x, zI l5] 137 h') : Wp mX12_stillOf (kR fr M1 M2) Q (b1, b2) 29 [zR 98, zI l1, zI l2, zI l3, zI l4, zI l5, x6] [] 137 h := by
  refine s_fgt (fgt_c (fgt_c (fgt_c (fgt_c (fgt_c (fgt_c (fgt_n _ fgt_0))))))) ?_
  refine s_aload_n (x := 98) dX12_stillOf_29 rfl ?_
  refine s_iload_n (x := l2) dX12_stillOf_30 rfl ?_
  refine s_put (c := 98) dX12_stillOf_31 lX12_322 e98 ?_
  refine s_aload_n (x := 98) dX12_stillOf_34 rfl ?_
  refine s_iload_n (x := l3) dX12_stillOf_35 rfl ?_
  refine s_put (c := 98) dX12_stillOf_36 lX12_68 e98 ?_
  refine s_iload (x := l5) dX12_stillOf_39 rfl ?_
  refine s_aload_n (x := 98) dX12_stillOf_41 rfl ?_
  refine s_iload_n (x := l1) dX12_stillOf_42 rfl ?_
  exact s_callV (as := [zI l1]) (st := [zI l5]) (o := 98) dX12_stillOf_43 kX12_396 rfl ⟨12, 87, TX12, e98, rfl, by decide⟩ rfl rfl (Nat.le_of_ble_eq_true rfl) hS (show fr - 1 + 1 ≤ fr by omega) (Nat.zero_le _) (Nat.zero_le _) (fun v n' h' hP _ => by obtain ⟨x, e, rfl, hR⟩ := hP; cases e; exact kk x h' hR) (fun E n' h' _ z => (rI_nt _ _ _ z).elim)
theorem bX12_stillOf_46 {fr M1 M2 b1 b2 : Nat} {Q : RS → Nat → AH → Prop} {h : AH} {l1 l2 l3 l4 s1 s0 : Int} {x5 x6 : AV}  (r1 : -2147483648 ≤ s0 ∧ s0 < 2147483648 := by omega) (kt : s0 = 0 → Wp mX12_stillOf (kR fr M1 M2) Q (b1, b2) 53 [zR 98, zI l1, zI l2, zI l3, zI l4, none, none] [zI s1] 137 h) (kf : ¬ s0 = 0 → Wp mX12_stillOf (kR fr M1 M2) Q (b1, b2) 49 [zR 98, zI l1, zI l2, zI l3, zI l4, none, none] [zI s1] 137 h) : Wp mX12_stillOf (kR fr M1 M2) Q (b1, b2) 46 [zR 98, zI l1, zI l2, zI l3, zI l4, x5, x6] [zI s0, zI s1] 137 h := by
  refine s_fgt (fgt_c (fgt_c (fgt_c (fgt_c (fgt_c (fgt_n _ (fgt_n _ fgt_0))))))) ?_
  exact s_if_eq (tgt := 53) dX12_stillOf_46 (by decide) r1 kt kf
theorem bX12_stillOf_49 {fr M1 M2 b1 b2 : Nat} {Q : RS → Nat → AH → Prop} {h : AH} {l1 l2 l3 l4 s0 : Int} {x5 x6 : AV}   (kk : Wp mX12_stillOf (kR fr M1 M2) Q (b1, b2) 54 [zR 98, zI l1, zI l2, zI l3, zI l4, none, none] [zI 1, zI s0] 137 h) : Wp mX12_stillOf (kR fr M1 M2) Q (b1, b2) 49 [zR 98, zI l1, zI l2, zI l3, zI l4, x5, x6] [zI s0] 137 h := by
  refine s_fgt (fgt_c (fgt_c (fgt_c (fgt_c (fgt_c (fgt_n _ (fgt_n _ fgt_0))))))) ?_
  refine s_iconst dX12_stillOf_49 ?_
  exact s_goto (tgt := 54) dX12_stillOf_50 (by decide) kk
theorem bX12_stillOf_53 {fr M1 M2 b1 b2 : Nat} {Q : RS → Nat → AH → Prop} {h : AH} {l1 l2 l3 l4 s0 : Int} {x5 x6 : AV}   (kk : Wp mX12_stillOf (kR fr M1 M2) Q (b1, b2) 54 [zR 98, zI l1, zI l2, zI l3, zI l4, none, none] [zI 0, zI s0] 137 h) : Wp mX12_stillOf (kR fr M1 M2) Q (b1, b2) 53 [zR 98, zI l1, zI l2, zI l3, zI l4, x5, x6] [zI s0] 137 h := by
  refine s_fgt (fgt_c (fgt_c (fgt_c (fgt_c (fgt_c (fgt_n _ (fgt_n _ fgt_0))))))) ?_
  refine s_iconst dX12_stillOf_53 ?_
  exact kk
theorem bX12_stillOf_54 {fr M1 M2 b1 b2 : Nat} {Q : RS → Nat → AH → Prop} {h : AH} {l1 l2 l3 l4 s1 s0 : Int} {x5 x6 : AV}   (kk : Wp mX12_stillOf (kR fr M1 M2) Q (b1, b2) 67 [zR 98, zI l1, zI l2, zI l3, zI l4, zI (s1 + s0), none] [] 137 (up (up h 98 46 0) 98 47 (-1))) : Wp mX12_stillOf (kR fr M1 M2) Q (b1, b2) 54 [zR 98, zI l1, zI l2, zI l3, zI l4, x5, x6] [zI s0, zI s1] 137 h := by
  refine s_fgt (fgt_c (fgt_c (fgt_c (fgt_c (fgt_c (fgt_n _ (fgt_n _ fgt_0))))))) ?_
  refine s_iadd dX12_stillOf_54 ?_
  refine s_istore dX12_stillOf_55 rfl (by decide) ?_
  refine s_aload_n (x := 98) dX12_stillOf_57 rfl ?_
  refine s_iconst dX12_stillOf_58 ?_
  refine s_put (c := 98) dX12_stillOf_59 lX12_322 e98 ?_
  refine s_aload_n (x := 98) dX12_stillOf_62 rfl ?_
  refine s_iconst dX12_stillOf_63 ?_
  refine s_put (c := 98) dX12_stillOf_64 lX12_68 e98 ?_
  exact kk
theorem bX12_stillOf_67 {fr M1 M2 b1 b2 : Nat} {Q : RS → Nat → AH → Prop} {h : AH} {l1 l2 l3 l4 l5 : Int} {x6 : AV} {R : Int → AH → Prop}   (hS : Sp mX12_nextLine true (fr - 1) 0 0 [zR 98] 137 h (rI R)) (hf : 1 ≤ fr := by omega) (kk : ∀ (x : Int) (h' : AH), R x h' → Wp mX12_stillOf (kR fr M1 M2) Q (b1, b2) 71 [zR 98, zI l1, zI l2, zI l3, zI l4, zI l5, none] [zI x] 137 h') : Wp mX12_stillOf (kR fr M1 M2) Q (b1, b2) 67 [zR 98, zI l1, zI l2, zI l3, zI l4, zI l5, x6] [] 137 h := by
  refine s_fgt (fgt_c (fgt_c (fgt_c (fgt_c (fgt_c (fgt_c (fgt_n _ fgt_0))))))) ?_
  refine s_aload_n (x := 98) dX12_stillOf_67 rfl ?_
  exact s_callV (as := []) (st := []) (o := 98) dX12_stillOf_68 kX12_405 rfl ⟨12, 87, TX12, e98, rfl, by decide⟩ rfl rfl (Nat.le_of_ble_eq_true rfl) hS (show fr - 1 + 1 ≤ fr by omega) (Nat.zero_le _) (Nat.zero_le _) (fun v n' h' hP _ => by obtain ⟨x, e, rfl, hR⟩ := hP; cases e; exact kk x h' hR) (fun E n' h' _ z => (rI_nt _ _ _ z).elim)
theorem bX12_stillOf_71 {fr M1 M2 b1 b2 : Nat} {Q : RS → Nat → AH → Prop} {h : AH} {l1 l2 l3 l4 l5 s0 : Int} {x6 : AV}   (kk : Wp mX12_stillOf (kR fr M1 M2) Q (b1, b2) 9 [zR 98, zI l1, zI l2, zI l3, zI l4, zI l5, zI s0] [] 137 h) : Wp mX12_stillOf (kR fr M1 M2) Q (b1, b2) 71 [zR 98, zI l1, zI l2, zI l3, zI l4, zI l5, x6] [zI s0] 137 h := by
  refine s_fgt (fgt_c (fgt_c (fgt_c (fgt_c (fgt_c (fgt_c (fgt_n _ fgt_0))))))) ?_
  refine s_istore dX12_stillOf_71 rfl (by decide) ?_
  exact s_goto (tgt := 9) dX12_stillOf_73 (by decide) kk
theorem bX12_stillOf_76 {fr M1 M2 b1 b2 : Nat} {Q : RS → Nat → AH → Prop} {h : AH} {l5 : Int} {x0 x1 x2 x3 x4 x6 : AV}   (hq : Q (.inl (some (zI l5))) 137 h) : Wp mX12_stillOf (kR fr M1 M2) Q (b1, b2) 76 [x0, x1, x2, x3, x4, zI l5, x6] [] 137 h := by
  refine s_fgt (fgt_n _ (fgt_n _ (fgt_n _ (fgt_n _ (fgt_n _ (fgt_c (fgt_n _ fgt_0))))))) ?_
  refine s_iload (x := l5) dX12_stillOf_76 rfl ?_
  exact s_ireturn dX12_stillOf_78 ⟨.int, rfl, rfl⟩ hq (fun z => by cases z)
theorem dX12_still_0 : decode mX12_still.cd 0 = .ok (.aload_n 0, 1) := by decide +kernel
theorem dX12_still_1 : decode mX12_still.cd 1 = .ok (.iconst 0, 1) := by decide +kernel
theorem dX12_still_2 : decode mX12_still.cd 2 = .ok (.putfield 136, 3) := by decide +kernel
theorem dX12_still_5 : decode mX12_still.cd 5 = .ok (.aload_n 0, 1) := by decide +kernel
theorem dX12_still_6 : decode mX12_still.cd 6 = .ok (.iload_n 1, 1) := by decide +kernel
theorem dX12_still_7 : decode mX12_still.cd 7 = .ok (.invokevirtual 408, 3) := by decide +kernel
theorem dX12_still_10 : decode mX12_still.cd 10 = .ok (.ifCond .eq 31, 3) := by decide +kernel
theorem dX12_still_13 : decode mX12_still.cd 13 = .ok (.aload_n 0, 1) := by decide +kernel
theorem dX12_still_14 : decode mX12_still.cd 14 = .ok (.iload_n 2, 1) := by decide +kernel
theorem dX12_still_15 : decode mX12_still.cd 15 = .ok (.iconst 0, 1) := by decide +kernel
theorem dX12_still_16 : decode mX12_still.cd 16 = .ok (.bipush 100, 2) := by decide +kernel
theorem dX12_still_18 : decode mX12_still.cd 18 = .ok (.invokestatic 301, 3) := by decide +kernel
theorem dX12_still_21 : decode mX12_still.cd 21 = .ok (.iconst 2, 1) := by decide +kernel
theorem dX12_still_22 : decode mX12_still.cd 22 = .ok (.invokevirtual 260, 3) := by decide +kernel
theorem dX12_still_25 : decode mX12_still.cd 25 = .ok (.ifCond .eq 16, 3) := by decide +kernel
theorem dX12_still_28 : decode mX12_still.cd 28 = .ok (.aload_n 0, 1) := by decide +kernel
theorem dX12_still_29 : decode mX12_still.cd 29 = .ok (.iload_n 1, 1) := by decide +kernel
theorem dX12_still_30 : decode mX12_still.cd 30 = .ok (.iload_n 2, 1) := by decide +kernel
theorem dX12_still_31 : decode mX12_still.cd 31 = .ok (.iconst (-1), 1) := by decide +kernel
theorem dX12_still_32 : decode mX12_still.cd 32 = .ok (.sipush 10000, 3) := by decide +kernel
theorem dX12_still_35 : decode mX12_still.cd 35 = .ok (.invokevirtual 417, 3) := by decide +kernel
theorem dX12_still_38 : decode mX12_still.cd 38 = .ok (.goto 4, 3) := by decide +kernel
theorem dX12_still_41 : decode mX12_still.cd 41 = .ok (.iconst 0, 1) := by decide +kernel
theorem dX12_still_42 : decode mX12_still.cd 42 = .ok (.ireturn, 1) := by decide +kernel
theorem bX12_still_0 {fr M1 M2 b1 b2 : Nat} {Q : RS → Nat → AH → Prop} {h : AH} {l1 l2 : Int} {R : Int → AH → Prop}   (hS : Sp mX12_isHour true (fr - 1) 0 0 [zR 98, zI l1] 137 (up h 98 0 0) (rI R)) (hf : 1 ≤ fr := by omega) (kk : ∀ (x : Int) (h' : AH), R x h' → Wp mX12_still (kR fr M1 M2) Q (b1, b2) 10 [zR 98, zI l1, zI l2] [zI x] 137 h') : Wp mX12_still (kR fr M1 M2) Q (b1, b2) 0 [zR 98, zI l1, zI l2] [] 137 h := by
  refine s_aload_n (x := 98) dX12_still_0 rfl ?_
  refine s_iconst dX12_still_1 ?_
  refine s_put (c := 98) dX12_still_2 lX12_136 e98 ?_
  refine s_aload_n (x := 98) dX12_still_5 rfl ?_
  refine s_iload_n (x := l1) dX12_still_6 rfl ?_
  exact s_callV (as := [zI l1]) (st := []) (o := 98) dX12_still_7 kX12_408 rfl ⟨12, 87, TX12, e98, rfl, by decide⟩ rfl rfl (Nat.le_of_ble_eq_true rfl) hS (show fr - 1 + 1 ≤ fr by omega) (Nat.zero_le _) (Nat.zero_le _) (fun v n' h' hP _ => by obtain ⟨x, e, rfl, hR⟩ := hP; cases e; exact kk x h' hR) (fun E n' h' _ z => (rI_nt _ _ _ z).elim)
theorem bX12_still_10 {fr M1 M2 b1 b2 : Nat} {Q : RS → Nat → AH → Prop} {h : AH} {l1 l2 s0 : Int}  (r1 : -2147483648 ≤ s0 ∧ s0 < 2147483648 := by omega) (kt : s0 = 0 → Wp mX12_still (kR fr M1 M2) Q (b1, b2) 41 [zR 98, zI l1, zI l2] [] 137 h) (kf : ¬ s0 = 0 → Wp mX12_still (kR fr M1 M2) Q (b1, b2) 13 [zR 98, zI l1, zI l2] [] 137 h) : Wp mX12_still (kR fr M1 M2) Q (b1, b2) 10 [zR 98, zI l1, zI l2] [zI s0] 137 h := by
  exact s_if_eq (tgt := 41) dX12_still_10 (by decide) r1 kt kf
theorem bX12_still_13 {fr M1 M2 b1 b2 : Nat} {Q : RS → Nat → AH → Prop} {h : AH} {l1 l2 : Int} {R : Int → AH → Prop}   (hS : Sp mX12_within true (fr - 1) 0 0 [zI l2, zI 0, zI 100] 137 h (rI R)) (hf : 1 ≤ fr := by omega) (kk : ∀ (x : Int) (h' : AH), R x h' → Wp mX12_still (kR fr M1 M2) Q (b1, b2) 21 [zR 98, zI l1, zI l2] [zI x, zR 98] 137 h') : Wp mX12_still (kR fr M1 M2) Q (b1, b2) 13 [zR 98, zI l1, zI l2] [] 137 h := by
  refine s_aload_n (x := 98) dX12_still_13 rfl ?_
  refine s_iload_n (x := l2) dX12_still_14 rfl ?_
  refine s_iconst dX12_still_15 ?_
  refine s_bipush dX12_still_16 (by decide) ?_
  exact s_callS (as := [zI l2, zI 0, zI 100]) (st := [zR 98]) dX12_still_18 kX12_301 rfl rfl (Nat.le_of_ble_eq_true rfl) hS (show fr - 1 + 1 ≤ fr by omega) (Nat.zero_le _) (Nat.zero_le _) (fun v n' h' hP _ => by obtain ⟨x, e, rfl, hR⟩ := hP; cases e; exact kk x h' hR) (fun E n' h' _ z => (rI_nt _ _ _ z).elim)
theorem bX12_still_21 {fr M1 M2 b1 b2 : Nat} {Q : RS → Nat → AH → Prop} {h : AH} {l1 l2 s0 : Int} {R : Int → AH → Prop}   (hS : Sp mX12_right true (fr - 1) 0 0 [zR 98, zI s0, zI 2] 137 h (rI R)) (hf : 1 ≤ fr := by omega) (kk : ∀ (x : Int) (h' : AH), R x h' → Wp mX12_still (kR fr M1 M2) Q (b1, b2) 25 [zR 98, zI l1, zI l2] [zI x] 137 h') : Wp mX12_still (kR fr M1 M2) Q (b1, b2) 21 [zR 98, zI l1, zI l2] [zI s0, zR 98] 137 h := by
  refine s_iconst dX12_still_21 ?_
  exact s_callV (as := [zI s0, zI 2]) (st := []) (o := 98) dX12_still_22 kX12_260 rfl ⟨12, 87, TX12, e98, rfl, by decide⟩ rfl rfl (Nat.le_of_ble_eq_true rfl) hS (show fr - 1 + 1 ≤ fr by omega) (Nat.zero_le _) (Nat.zero_le _) (fun v n' h' hP _ => by obtain ⟨x, e, rfl, hR⟩ := hP; cases e; exact kk x h' hR) (fun E n' h' _ z => (rI_nt _ _ _ z).elim)
theorem bX12_still_25 {fr M1 M2 b1 b2 : Nat} {Q : RS → Nat → AH → Prop} {h : AH} {l1 l2 s0 : Int}  (r1 : -2147483648 ≤ s0 ∧ s0 < 2147483648 := by omega) (kt : s0 = 0 → Wp mX12_still (kR fr M1 M2) Q (b1, b2) 41 [zR 98, zI l1, zI l2] [] 137 h) (kf : ¬ s0 = 0 → Wp mX12_still (kR fr M1 M2) Q (b1, b2) 28 [zR 98, zI l1, zI l2] [] 137 h) : Wp mX12_still (kR fr M1 M2) Q (b1, b2) 25 [zR 98, zI l1, zI l2] [zI s0] 137 h := by
  exact s_if_eq (tgt := 41) dX12_still_25 (by decide) r1 kt kf
theorem bX12_still_28 {fr M1 M2 b1 b2 : Nat} {Q : RS → Nat → AH → Prop} {h : AH} {l1 l2 : Int} {R : Int → AH → Prop}   (hS : Sp mX12_stillOf true (fr - 1) 0 0 [zR 98, zI l1, zI l2, zI (-1), zI 10000] 137 h (rI R)) (hf : 1 ≤ fr := by omega) (kk : ∀ (x : Int) (h' : AH), R x h' → Wp mX12_still (kR fr M1 M2) Q (b1, b2) 38 [zR 98, zI l1, zI l2] [zI x] 137 h') : Wp mX12_still (kR fr M1 M2) Q (b1, b2) 28 [zR 98, zI l1, zI l2] [] 137 h := by
  refine s_aload_n (x := 98) dX12_still_28 rfl ?_
  refine s_iload_n (x := l1) dX12_still_29 rfl ?_
  refine s_iload_n (x := l2) dX12_still_30 rfl ?_
  refine s_iconst dX12_still_31 ?_
  refine s_sipush dX12_still_32 (by decide) ?_
  exact s_callV (as := [zI l1, zI l2, zI (-1), zI 10000]) (st := []) (o := 98) dX12_still_35 kX12_417 rfl ⟨12, 87, TX12, e98, rfl, by decide⟩ rfl rfl (Nat.le_of_ble_eq_true rfl) hS (show fr - 1 + 1 ≤ fr by omega) (Nat.zero_le _) (Nat.zero_le _) (fun v n' h' hP _ => by obtain ⟨x, e, rfl, hR⟩ := hP; cases e; exact kk x h' hR) (fun E n' h' _ z => (rI_nt _ _ _ z).elim)
theorem bX12_still_38 {fr M1 M2 b1 b2 : Nat} {Q : RS → Nat → AH → Prop} {h : AH} {s0 : Int} {x0 x1 x2 : AV}   (kk : Wp mX12_still (kR fr M1 M2) Q (b1, b2) 42 [none, none, none] [zI s0] 137 h) : Wp mX12_still (kR fr M1 M2) Q (b1, b2) 38 [x0, x1, x2] [zI s0] 137 h := by
  refine s_fgt (fgt_n _ (fgt_n _ (fgt_n _ fgt_0))) ?_
  exact s_goto (tgt := 42) dX12_still_38 (by decide) kk
theorem bX12_still_41 {fr M1 M2 b1 b2 : Nat} {Q : RS → Nat → AH → Prop} {h : AH} {x0 x1 x2 : AV}   (kk : Wp mX12_still (kR fr M1 M2) Q (b1, b2) 42 [none, none, none] [zI 0] 137 h) : Wp mX12_still (kR fr M1 M2) Q (b1, b2) 41 [x0, x1, x2] [] 137 h := by
  refine s_fgt (fgt_n _ (fgt_n _ (fgt_n _ fgt_0))) ?_
  refine s_iconst dX12_still_41 ?_
  exact kk
theorem bX12_still_42 {fr M1 M2 b1 b2 : Nat} {Q : RS → Nat → AH → Prop} {h : AH} {s0 : Int} {x0 x1 x2 : AV}   (hq : Q (.inl (some (zI s0))) 137 h) : Wp mX12_still (kR fr M1 M2) Q (b1, b2) 42 [x0, x1, x2] [zI s0] 137 h := by
  refine s_fgt (fgt_n _ (fgt_n _ (fgt_n _ fgt_0))) ?_
  exact s_ireturn dX12_still_42 ⟨.int, rfl, rfl⟩ hq (fun z => by cases z)
theorem dX12_without_0 : decode mX12_without.cd 0 = .ok (.aload_n 0, 1) := by decide +kernel
theorem dX12_without_1 : decode mX12_without.cd 1 = .ok (.iconst 0, 1) := by decide +kernel
theorem dX12_without_2 : decode mX12_without.cd 2 = .ok (.putfield 136, 3) := by decide +kernel
theorem dX12_without_5 : decode mX12_without.cd 5 = .ok (.aload_n 0, 1) := by decide +kernel
theorem dX12_without_6 : decode mX12_without.cd 6 = .ok (.iload_n 1, 1) := by decide +kernel
theorem dX12_without_7 : decode mX12_without.cd 7 = .ok (.invokevirtual 408, 3) := by decide +kernel
theorem dX12_without_10 : decode mX12_without.cd 10 = .ok (.ifCond .eq 41, 3) := by decide +kernel
theorem dX12_without_13 : decode mX12_without.cd 13 = .ok (.aload_n 0, 1) := by decide +kernel
theorem dX12_without_14 : decode mX12_without.cd 14 = .ok (.iload_n 2, 1) := by decide +kernel
theorem dX12_without_15 : decode mX12_without.cd 15 = .ok (.ifCond .lt 15, 3) := by decide +kernel
theorem dX12_without_18 : decode mX12_without.cd 18 = .ok (.iload_n 2, 1) := by decide +kernel
theorem dX12_without_19 : decode mX12_without.cd 19 = .ok (.aload_n 0, 1) := by decide +kernel
theorem dX12_without_20 : decode mX12_without.cd 20 = .ok (.getfield 270, 3) := by decide +kernel
theorem dX12_without_23 : decode mX12_without.cd 23 = .ok (.if_icmp .ge 7, 3) := by decide +kernel
theorem dX12_without_26 : decode mX12_without.cd 26 = .ok (.iconst 1, 1) := by decide +kernel
theorem dX12_without_27 : decode mX12_without.cd 27 = .ok (.goto 4, 3) := by decide +kernel
theorem dX12_without_30 : decode mX12_without.cd 30 = .ok (.iconst 0, 1) := by decide +kernel
theorem dX12_without_31 : decode mX12_without.cd 31 = .ok (.iconst 1, 1) := by decide +kernel
theorem dX12_without_32 : decode mX12_without.cd 32 = .ok (.invokevirtual 260, 3) := by decide +kernel
theorem dX12_without_35 : decode mX12_without.cd 35 = .ok (.ifCond .eq 16, 3) := by decide +kernel
theorem dX12_without_38 : decode mX12_without.cd 38 = .ok (.aload_n 0, 1) := by decide +kernel
theorem dX12_without_39 : decode mX12_without.cd 39 = .ok (.iload_n 1, 1) := by decide +kernel
theorem dX12_without_40 : decode mX12_without.cd 40 = .ok (.iconst 0, 1) := by decide +kernel
theorem dX12_without_41 : decode mX12_without.cd 41 = .ok (.iload_n 2, 1) := by decide +kernel
theorem dX12_without_42 : decode mX12_without.cd 42 = .ok (.sipush 10000, 3) := by decide +kernel
theorem dX12_without_45 : decode mX12_without.cd 45 = .ok (.invokevirtual 417, 3) := by decide +kernel
theorem dX12_without_48 : decode mX12_without.cd 48 = .ok (.goto 4, 3) := by decide +kernel
theorem dX12_without_51 : decode mX12_without.cd 51 = .ok (.iconst 0, 1) := by decide +kernel
theorem dX12_without_52 : decode mX12_without.cd 52 = .ok (.ireturn, 1) := by decide +kernel
theorem bX12_without_0 {fr M1 M2 b1 b2 : Nat} {Q : RS → Nat → AH → Prop} {h : AH} {l1 l2 : Int} {R : Int → AH → Prop}   (hS : Sp mX12_isHour true (fr - 1) 0 0 [zR 98, zI l1] 137 (up h 98 0 0) (rI R)) (hf : 1 ≤ fr := by omega) (kk : ∀ (x : Int) (h' : AH), R x h' → Wp mX12_without (kR fr M1 M2) Q (b1, b2) 10 [zR 98, zI l1, zI l2] [zI x] 137 h') : Wp mX12_without (kR fr M1 M2) Q (b1, b2) 0 [zR 98, zI l1, zI l2] [] 137 h := by
  refine s_aload_n (x := 98) dX12_without_0 rfl ?_
  refine s_iconst dX12_without_1 ?_
  refine s_put (c := 98) dX12_without_2 lX12_136 e98 ?_
  refine s_aload_n (x := 98) dX12_without_5 rfl ?_
  refine s_iload_n (x := l1) dX12_without_6 rfl ?_
  exact s_callV (as := [zI l1]) (st := []) (o := 98) dX12_without_7 kX12_408 rfl ⟨12, 87, TX12, e98, rfl, by decide⟩ rfl rfl (Nat.le_of_ble_eq_true rfl) hS (show fr - 1 + 1 ≤ fr by omega) (Nat.zero_le _) (Nat.zero_le _) (fun v n' h' hP _ => by obtain ⟨x, e, rfl, hR⟩ := hP; cases e; exact kk x h' hR) (fun E n' h' _ z => (rI_nt _ _ _ z).elim)
theorem bX12_without_10 {fr M1 M2 b1 b2 : Nat} {Q : RS → Nat → AH → Prop} {h : AH} {l1 l2 s0 : Int}  (r1 : -2147483648 ≤ s0 ∧ s0 < 2147483648 := by omega) (kt : s0 = 0 → Wp mX12_without (kR fr M1 M2) Q (b1, b2) 51 [zR 98, zI l1, zI l2] [] 137 h) (kf : ¬ s0 = 0 → Wp mX12_without (kR fr M1 M2) Q (b1, b2) 13 [zR 98, zI l1, zI l2] [] 137 h) : Wp mX12_without (kR fr M1 M2) Q (b1, b2) 10 [zR 98, zI l1, zI l2] [zI s0] 137 h := by
  exact s_if_eq (tgt := 51) dX12_without_10 (by decide) r1 kt kf
theorem bX12_without_13 {fr M1 M2 b1 b2 : Nat} {Q : RS → Nat → AH → Prop} {h : AH} {l1 l2 : Int}  (r1 : -2147483648 ≤ l2 ∧ l2 < 2147483648 := by omega) (kt : l2 < 0 → Wp mX12_without (kR fr M1 M2) Q (b1, b2) 30 [zR 98, zI l1, zI l2] [zR 98] 137 h) (kf : 0 ≤ l2 → Wp mX12_without (kR fr M1 M2) Q (b1, b2) 18 [zR 98, zI l1, zI l2] [zR 98] 137 h) : Wp mX12_without (kR fr M1 M2) Q (b1, b2) 13 [zR 98, zI l1, zI l2] [] 137 h := by
  refine s_aload_n (x := 98) dX12_without_13 rfl ?_
  refine s_iload_n (x := l2) dX12_without_14 rfl ?_
  exact s_if_lt (tgt := 30) dX12_without_15 (by decide) r1 kt kf
theorem bX12_without_18 {fr M1 M2 b1 b2 : Nat} {Q : RS → Nat → AH → Prop} {h : AH} {l1 l2 : Int}  (r1 : -2147483648 ≤ l2 ∧ l2 < 2147483648 := by omega) (r2 : -2147483648 ≤ h 98 2 ∧ h 98 2 < 2147483648 := by omega) (kt : h 98 2 ≤ l2 → Wp mX12_without (kR fr M1 M2) Q (b1, b2) 30 [zR 98, zI l1, zI l2] [zR 98] 137 h) (kf : l2 < h 98 2 → Wp mX12_without (kR fr M1 M2) Q (b1, b2) 26 [zR 98, zI l1, zI l2] [zR 98] 137 h) : Wp mX12_without (kR fr M1 M2) Q (b1, b2) 18 [zR 98, zI l1, zI l2] [zR 98] 137 h := by
  refine s_iload_n (x := l2) dX12_without_18 rfl ?_
  refine s_aload_n (x := 98) dX12_without_19 rfl ?_
  refine s_get (c := 98) dX12_without_20 lX12_270 e98 (by decide) ?_
  exact s_icmp_ge (tgt := 30) dX12_without_23 (by decide) r1 r2 kt kf
theorem bX12_without_26 {fr M1 M2 b1 b2 : Nat} {Q : RS → Nat → AH → Prop} {h : AH} {l1 l2 : Int}   (kk : Wp mX12_without (kR fr M1 M2) Q (b1, b2) 31 [zR 98, zI l1, zI l2] [zI 1, zR 98] 137 h) : Wp mX12_without (kR fr M1 M2) Q (b1, b2) 26 [zR 98, zI l1, zI l2] [zR 98] 137 h := by
  refine s_iconst dX12_without_26 ?_
  exact s_goto (tgt := 31) dX12_without_27 (by decide) kk
theorem bX12_without_30 {fr M1 M2 b1 b2 : Nat} {Q : RS → Nat → AH → Prop} {h : AH} {l1 l2 : Int}   (kk : Wp mX12_without (kR fr M1 M2) Q (b1, b2) 31 [zR 98, zI l1, zI l2] [zI 0, zR 98] 137 h) : Wp mX12_without (kR fr M1 M2) Q (b1, b2) 30 [zR 98, zI l1, zI l2] [zR 98] 137 h := by
  refine s_iconst dX12_without_30 ?_
  exact kk
theorem bX12_without_31 {fr M1 M2 b1 b2 : Nat} {Q : RS → Nat → AH → Prop} {h : AH} {l1 l2 s0 : Int} {R : Int → AH → Prop}   (hS : Sp mX12_right true (fr - 1) 0 0 [zR 98, zI s0, zI 1] 137 h (rI R)) (hf : 1 ≤ fr := by omega) (kk : ∀ (x : Int) (h' : AH), R x h' → Wp mX12_without (kR fr M1 M2) Q (b1, b2) 35 [zR 98, zI l1, zI l2] [zI x] 137 h') : Wp mX12_without (kR fr M1 M2) Q (b1, b2) 31 [zR 98, zI l1, zI l2] [zI s0, zR 98] 137 h := by
  refine s_iconst dX12_without_31 ?_
  exact s_callV (as := [zI s0, zI 1]) (st := []) (o := 98) dX12_without_32 kX12_260 rfl ⟨12, 87, TX12, e98, rfl, by decide⟩ rfl rfl (Nat.le_of_ble_eq_true rfl) hS (show fr - 1 + 1 ≤ fr by omega) (Nat.zero_le _) (Nat.zero_le _) (fun v n' h' hP _ => by obtain ⟨x, e, rfl, hR⟩ := hP; cases e; exact kk x h' hR) (fun E n' h' _ z => (rI_nt _ _ _ z).elim)
theorem bX12_without_35 {fr M1 M2 b1 b2 : Nat} {Q : RS → Nat → AH → Prop} {h : AH} {l1 l2 s0 : Int}  (r1 : -2147483648 ≤ s0 ∧ s0 < 2147483648 := by omega) (kt : s0 = 0 → Wp mX12_without (kR fr M1 M2) Q (b1, b2) 51 [zR 98, zI l1, zI l2] [] 137 h) (kf : ¬ s0 = 0 → Wp mX12_without (kR fr M1 M2) Q (b1, b2) 38 [zR 98, zI l1, zI l2] [] 137 h) : Wp mX12_without (kR fr M1 M2) Q (b1, b2) 35 [zR 98, zI l1, zI l2] [zI s0] 137 h := by
  exact s_if_eq (tgt := 51) dX12_without_35 (by decide) r1 kt kf
theorem bX12_without_38 {fr M1 M2 b1 b2 : Nat} {Q : RS → Nat → AH → Prop} {h : AH} {l1 l2 : Int} {R : Int → AH → Prop}   (hS : Sp mX12_stillOf true (fr - 1) 0 0 [zR 98, zI l1, zI 0, zI l2, zI 10000] 137 h (rI R)) (hf : 1 ≤ fr := by omega) (kk : ∀ (x : Int) (h' : AH), R x h' → Wp mX12_without (kR fr M1 M2) Q (b1, b2) 48 [zR 98, zI l1, zI l2] [zI x] 137 h') : Wp mX12_without (kR fr M1 M2) Q (b1, b2) 38 [zR 98, zI l1, zI l2] [] 137 h := by
  refine s_aload_n (x := 98) dX12_without_38 rfl ?_
  refine s_iload_n (x := l1) dX12_without_39 rfl ?_
  refine s_iconst dX12_without_40 ?_
  refine s_iload_n (x := l2) dX12_without_41 rfl ?_
  refine s_sipush dX12_without_42 (by decide) ?_
  exact s_callV (as := [zI l1, zI 0, zI l2, zI 10000]) (st := []) (o := 98) dX12_without_45 kX12_417 rfl ⟨12, 87, TX12, e98, rfl, by decide⟩ rfl rfl (Nat.le_of_ble_eq_true rfl) hS (show fr - 1 + 1 ≤ fr by omega) (Nat.zero_le _) (Nat.zero_le _) (fun v n' h' hP _ => by obtain ⟨x, e, rfl, hR⟩ := hP; cases e; exact kk x h' hR) (fun E n' h' _ z => (rI_nt _ _ _ z).elim)
theorem bX12_without_48 {fr M1 M2 b1 b2 : Nat} {Q : RS → Nat → AH → Prop} {h : AH} {s0 : Int} {x0 x1 x2 : AV}   (kk : Wp mX12_without (kR fr M1 M2) Q (b1, b2) 52 [none, none, none] [zI s0] 137 h) : Wp mX12_without (kR fr M1 M2) Q (b1, b2) 48 [x0, x1, x2] [zI s0] 137 h := by
  refine s_fgt (fgt_n _ (fgt_n _ (fgt_n _ fgt_0))) ?_
  exact s_goto (tgt := 52) dX12_without_48 (by decide) kk
theorem bX12_without_51 {fr M1 M2 b1 b2 : Nat} {Q : RS → Nat → AH → Prop} {h : AH} {x0 x1 x2 : AV}   (kk : Wp mX12_without (kR fr M1 M2) Q (b1, b2) 52 [none, none, none] [zI 0] 137 h) : Wp mX12_without (kR fr M1 M2) Q (b1, b2) 51 [x0, x1, x2] [] 137 h := by
  refine s_fgt (fgt_n _ (fgt_n _ (fgt_n _ fgt_0))) ?_
  refine s_iconst dX12_without_51 ?_
  exact kk
theorem bX12_without_52 {fr M1 M2 b1 b2 : Nat} {Q : RS → Nat → AH → Prop} {h : AH} {s0 : Int} {x0 x1 x2 : AV}   (hq : Q (.inl (some (zI s0))) 137 h) : Wp mX12_without (kR fr M1 M2) Q (b1, b2) 52 [x0, x1, x2] [zI s0] 137 h := by
  refine s_fgt (fgt_n _ (fgt_n _ (fgt_n _ fgt_0))) ?_
  exact s_ireturn dX12_without_52 ⟨.int, rfl, rfl⟩ hq (fun z => by cases z)
theorem dX12_lasts_0 : decode mX12_lasts.cd 0 = .ok (.aload_n 0, 1) := by decide +kernel
theorem dX12_lasts_1 : decode mX12_lasts.cd 1 = .ok (.iconst 0, 1) := by decide +kernel
theorem dX12_lasts_2 : decode mX12_lasts.cd 2 = .ok (.putfield 136, 3) := by decide +kernel
theorem dX12_lasts_5 : decode mX12_lasts.cd 5 = .ok (.aload_n 0, 1) := by decide +kernel
theorem dX12_lasts_6 : decode mX12_lasts.cd 6 = .ok (.iload_n 1, 1) := by decide +kernel
theorem dX12_lasts_7 : decode mX12_lasts.cd 7 = .ok (.invokevirtual 408, 3) := by decide +kernel
theorem dX12_lasts_10 : decode mX12_lasts.cd 10 = .ok (.ifCond .ne 5, 3) := by decide +kernel
theorem dX12_lasts_13 : decode mX12_lasts.cd 13 = .ok (.iconst 0, 1) := by decide +kernel
theorem dX12_lasts_14 : decode mX12_lasts.cd 14 = .ok (.ireturn, 1) := by decide +kernel
theorem dX12_lasts_15 : decode mX12_lasts.cd 15 = .ok (.iconst (-1), 1) := by decide +kernel
theorem dX12_lasts_16 : decode mX12_lasts.cd 16 = .ok (.istore_n 2, 1) := by decide +kernel
theorem dX12_lasts_17 : decode mX12_lasts.cd 17 = .ok (.aload_n 0, 1) := by decide +kernel
theorem dX12_lasts_18 : decode mX12_lasts.cd 18 = .ok (.invokevirtual 393, 3) := by decide +kernel
theorem dX12_lasts_21 : decode mX12_lasts.cd 21 = .ok (.istore_n 3, 1) := by decide +kernel
theorem dX12_lasts_22 : decode mX12_lasts.cd 22 = .ok (.iload_n 3, 1) := by decide +kernel
theorem dX12_lasts_23 : decode mX12_lasts.cd 23 = .ok (.ifCond .eq 83, 3) := by decide +kernel
theorem dX12_lasts_26 : decode mX12_lasts.cd 26 = .ok (.aload_n 0, 1) := by decide +kernel
theorem dX12_lasts_27 : decode mX12_lasts.cd 27 = .ok (.iload_n 1, 1) := by decide +kernel
theorem dX12_lasts_28 : decode mX12_lasts.cd 28 = .ok (.invokevirtual 396, 3) := by decide +kernel
theorem dX12_lasts_31 : decode mX12_lasts.cd 31 = .ok (.ifCond .eq 67, 3) := by decide +kernel
theorem dX12_lasts_34 : decode mX12_lasts.cd 34 = .ok (.iload_n 2, 1) := by decide +kernel
theorem dX12_lasts_35 : decode mX12_lasts.cd 35 = .ok (.ifCond .ge 7, 3) := by decide +kernel
theorem dX12_lasts_38 : decode mX12_lasts.cd 38 = .ok (.iconst 0, 1) := by decide +kernel
theorem dX12_lasts_39 : decode mX12_lasts.cd 39 = .ok (.goto 4, 3) := by decide +kernel
theorem dX12_lasts_42 : decode mX12_lasts.cd 42 = .ok (.iload_n 2, 1) := by decide +kernel
theorem dX12_lasts_43 : decode mX12_lasts.cd 43 = .ok (.istore_n 2, 1) := by decide +kernel
theorem dX12_lasts_44 : decode mX12_lasts.cd 44 = .ok (.iconst 0, 1) := by decide +kernel
theorem dX12_lasts_45 : decode mX12_lasts.cd 45 = .ok (.istore 4, 2) := by decide +kernel
theorem dX12_lasts_47 : decode mX12_lasts.cd 47 = .ok (.bipush 100, 2) := by decide +kernel
theorem dX12_lasts_49 : decode mX12_lasts.cd 49 = .ok (.istore 5, 2) := by decide +kernel
theorem dX12_lasts_51 : decode mX12_lasts.cd 51 = .ok (.iload 5, 2) := by decide +kernel
theorem dX12_lasts_53 : decode mX12_lasts.cd 53 = .ok (.iload_n 2, 1) := by decide +kernel
theorem dX12_lasts_54 : decode mX12_lasts.cd 54 = .ok (.if_icmp .le 39, 3) := by decide +kernel
theorem dX12_lasts_57 : decode mX12_lasts.cd 57 = .ok (.iload 4, 2) := by decide +kernel
theorem dX12_lasts_59 : decode mX12_lasts.cd 59 = .ok (.ifCond .ne 34, 3) := by decide +kernel
theorem dX12_lasts_62 : decode mX12_lasts.cd 62 = .ok (.aload_n 0, 1) := by decide +kernel
theorem dX12_lasts_63 : decode mX12_lasts.cd 63 = .ok (.iload 5, 2) := by decide +kernel
theorem dX12_lasts_65 : decode mX12_lasts.cd 65 = .ok (.putfield 322, 3) := by decide +kernel
theorem dX12_lasts_68 : decode mX12_lasts.cd 68 = .ok (.aload_n 0, 1) := by decide +kernel
theorem dX12_lasts_69 : decode mX12_lasts.cd 69 = .ok (.iload_n 1, 1) := by decide +kernel
theorem dX12_lasts_70 : decode mX12_lasts.cd 70 = .ok (.invokevirtual 396, 3) := by decide +kernel
theorem dX12_lasts_73 : decode mX12_lasts.cd 73 = .ok (.istore 4, 2) := by decide +kernel
theorem dX12_lasts_75 : decode mX12_lasts.cd 75 = .ok (.iload 4, 2) := by decide +kernel
theorem dX12_lasts_77 : decode mX12_lasts.cd 77 = .ok (.ifCond .eq 8, 3) := by decide +kernel
theorem dX12_lasts_80 : decode mX12_lasts.cd 80 = .ok (.iload 5, 2) := by decide +kernel
theorem dX12_lasts_82 : decode mX12_lasts.cd 82 = .ok (.goto 4, 3) := by decide +kernel
theorem dX12_lasts_85 : decode mX12_lasts.cd 85 = .ok (.iload_n 2, 1) := by decide +kernel
theorem dX12_lasts_86 : decode mX12_lasts.cd 86 = .ok (.istore_n 2, 1) := by decide +kernel
theorem dX12_lasts_87 : decode mX12_lasts.cd 87 = .ok (.iinc 5 (-1), 3) := by decide +kernel
theorem dX12_lasts_90 : decode mX12_lasts.cd 90 = .ok (.goto (-39), 3) := by decide +kernel
theorem dX12_lasts_93 : decode mX12_lasts.cd 93 = .ok (.aload_n 0, 1) := by decide +kernel
theorem dX12_lasts_94 : decode mX12_lasts.cd 94 = .ok (.iconst 0, 1) := by decide +kernel
theorem dX12_lasts_95 : decode mX12_lasts.cd 95 = .ok (.putfield 322, 3) := by decide +kernel
theorem dX12_lasts_98 : decode mX12_lasts.cd 98 = .ok (.aload_n 0, 1) := by decide +kernel
theorem dX12_lasts_99 : decode mX12_lasts.cd 99 = .ok (.invokevirtual 405, 3) := by decide +kernel
theorem dX12_lasts_102 : decode mX12_lasts.cd 102 = .ok (.istore_n 3, 1) := by decide +kernel
theorem dX12_lasts_103 : decode mX12_lasts.cd 103 = .ok (.goto (-81), 3) := by decide +kernel
theorem dX12_lasts_106 : decode mX12_lasts.cd 106 = .ok (.iload_n 2, 1) := by decide +kernel
theorem dX12_lasts_107 : decode mX12_lasts.cd 107 = .ok (.ireturn, 1) := by decide +kernel
theorem bX12_lasts_0 {fr M1 M2 b1 b2 : Nat} {Q : RS → Nat → AH → Prop} {h : AH} {l1 : Int} {x2 x3 x4 x5 : AV} {R : Int → AH → Prop}   (hS : Sp mX12_isHour true (fr - 1) 0 0 [zR 98, zI l1] 137 (up h 98 0 0) (rI R)) (hf : 1 ≤ fr := by omega) (kk : ∀ (x : Int) (h' : AH), R x h' → Wp mX12_lasts (kR fr M1 M2) Q (b1, b2) 10 [zR 98, zI l1, none, none, none, none] [zI x] 137 h') : Wp mX12_lasts (kR fr M1 M2) Q (b1, b2) 0 [zR 98, zI l1, x2, x3, x4, x5] [] 137 h := by
  refine s_fgt (fgt_c (fgt_c (fgt_n _ (fgt_n _ (fgt_n _ (fgt_n _ fgt_0)))))) ?_
  refine s_aload_n (x := 98) dX12_lasts_0 rfl ?_
  refine s_iconst dX12_lasts_1 ?_
  refine s_put (c := 98) dX12_lasts_2 lX12_136 e98 ?_
  refine s_aload_n (x := 98) dX12_lasts_5 rfl ?_
  refine s_iload_n (x := l1) dX12_lasts_6 rfl ?_
  exact s_callV (as := [zI l1]) (st := []) (o := 98) dX12_lasts_7 kX12_408 rfl ⟨12, 87, TX12, e98, rfl, by decide⟩ rfl rfl (Nat.le_of_ble_eq_true rfl) hS (show fr - 1 + 1 ≤ fr by omega) (Nat.zero_le _) (Nat.zero_le _) (fun v n' h' hP _ => by obtain ⟨x, e, rfl, hR⟩ := hP; cases e; exact kk x h' hR) (fun E n' h' _ z => (rI_nt _ _ _ z).elim)
theorem bX12_lasts_10 {fr M1 M2 b1 b2 : Nat} {Q : RS → Nat → AH → Prop} {h : AH} {l1 s0 : Int} {x2 x3 x4 x5 : AV}  (r1 : -2147483648 ≤ s0 ∧ s0 < 2147483648 := by omega) (kt : ¬ s0 = 0 → Wp mX12_lasts (kR fr M1 M2) Q (b1, b2) 15 [zR 98, zI l1, none, none, none, none] [] 137 h) (kf : s0 = 0 → Wp mX12_lasts (kR fr M1 M2) Q (b1, b2) 13 [zR 98, zI l1, none, none, none, none] [] 137 h) : Wp mX12_lasts (kR fr M1 M2) Q (b1, b2) 10 [zR 98, zI l1, x2, x3, x4, x5] [zI s0] 137 h := by
  refine s_fgt (fgt_c (fgt_c (fgt_n _ (fgt_n _ (fgt_n _ (fgt_n _ fgt_0)))))) ?_
  exact s_if_ne (tgt := 15) dX12_lasts_10 (by decide) r1 kt kf
theorem bX12_lasts_13 {fr M1 M2 b1 b2 : Nat} {Q : RS → Nat → AH → Prop} {h : AH} {x0 x1 x2 x3 x4 x5 : AV}   (hq : Q (.inl (some (zI 0))) 137 h) : Wp mX12_lasts (kR fr M1 M2) Q (b1, b2) 13 [x0, x1, x2, x3, x4, x5] [] 137 h := by
  refine s_fgt (fgt_n _ (fgt_n _ (fgt_n _ (fgt_n _ (fgt_n _ (fgt_n _ fgt_0)))))) ?_
  refine s_iconst dX12_lasts_13 ?_
  exact s_ireturn dX12_lasts_14 ⟨.int, rfl, rfl⟩ hq (fun z => by cases z)
theorem bX12_lasts_15 {fr M1 M2 b1 b2 : Nat} {Q : RS → Nat → AH → Prop} {h : AH} {l1 : Int} {x2 x3 x4 x5 : AV} {R : Int → AH → Prop}   (hS : Sp mX12_firstLine true (fr - 1) 0 0 [zR 98] 137 h (rI R)) (hf : 1 ≤ fr := by omega) (kk : ∀ (x : Int) (h' : AH), R x h' → Wp mX12_lasts (kR fr M1 M2) Q (b1, b2) 21 [zR 98, zI l1, zI (-1), none, none, none] [zI x] 137 h') : Wp mX12_lasts (kR fr M1 M2) Q (b1, b2) 15 [zR 98, zI l1, x2, x3, x4, x5] [] 137 h := by
  refine s_fgt (fgt_c (fgt_c (fgt_n _ (fgt_n _ (fgt_n _ (fgt_n _ fgt_0)))))) ?_
  refine s_iconst dX12_lasts_15 ?_
  refine s_istore_n dX12_lasts_16 rfl (by decide) ?_
  refine s_aload_n (x := 98) dX12_lasts_17 rfl ?_
  exact s_callV (as := []) (st := []) (o := 98) dX12_lasts_18 kX12_393 rfl ⟨12, 87, TX12, e98, rfl, by decide⟩ rfl rfl (Nat.le_of_ble_eq_true rfl) hS (show fr - 1 + 1 ≤ fr by omega) (Nat.zero_le _) (Nat.zero_le _) (fun v n' h' hP _ => by obtain ⟨x, e, rfl, hR⟩ := hP; cases e; exact kk x h' hR) (fun E n' h' _ z => (rI_nt _ _ _ z).elim)
theorem bX12_lasts_21 {fr M1 M2 b1 b2 : Nat} {Q : RS → Nat → AH → Prop} {h : AH} {l1 l2 s0 : Int} {x3 x4 x5 : AV}   (kk : Wp mX12_lasts (kR fr M1 M2) Q (b1, b2) 22 [zR 98, zI l1, zI l2, zI s0, none, none] [] 137 h) : Wp mX12_lasts (kR fr M1 M2) Q (b1, b2) 21 [zR 98, zI l1, zI l2, x3, x4, x5] [zI s0] 137 h := by
  refine s_fgt (fgt_c (fgt_c (fgt_c (fgt_n _ (fgt_n _ (fgt_n _ fgt_0)))))) ?_
  refine s_istore_n dX12_lasts_21 rfl (by decide) ?_
  exact kk
theorem bX12_lasts_22 {fr M1 M2 b1 b2 : Nat} {Q : RS → Nat → AH → Prop} {h : AH} {l1 l2 l3 : Int} {x4 x5 : AV}  (r1 : -2147483648 ≤ l3 ∧ l3 < 2147483648 := by omega) (kt : l3 = 0 → Wp mX12_lasts (kR fr M1 M2) Q (b1, b2) 106 [zR 98, zI l1, zI l2, zI l3, none, none] [] 137 h) (kf : ¬ l3 = 0 → Wp mX12_lasts (kR fr M1 M2) Q (b1, b2) 26 [zR 98, zI l1, zI l2, zI l3, none, none] [] 137 h) : Wp mX12_lasts (kR fr M1 M2) Q (b1, b2) 22 [zR 98, zI l1, zI l2, zI l3, x4, x5] [] 137 h := by
  refine s_fgt (fgt_c (fgt_c (fgt_c (fgt_c (fgt_n _ (fgt_n _ fgt_0)))))) ?_
  refine s_iload_n (x := l3) dX12_lasts_22 rfl ?_
  exact s_if_eq (tgt := 106) dX12_lasts_23 (by decide) r1 kt kf
theorem bX12_lasts_26 {fr M1 M2 b1 b2 : Nat} {Q : RS → Nat → AH → Prop} {h : AH} {l1 l2 : Int} {x3 x4 x5 : AV} {R : Int → AH → Prop}   (hS : Sp mX12_answers true (fr - 1) 0 0 [zR 98, zI l1] 137 h (rI R)) (hf : 1 ≤ fr := by omega) (kk : ∀ (x : Int) (h' : AH), R x h' → Wp mX12_lasts (kR fr M1 M2) Q (b1, b2) 31 [zR 98, zI l1, zI l2, none, none, none] [zI x] 137 h') : Wp mX12_lasts (kR fr M1 M2) Q (b1, b2) 26 [zR 98, zI l1, zI l2, x3, x4, x5] [] 137 h := by
  refine s_fgt (fgt_c (fgt_c (fgt_c (fgt_n _ (fgt_n _ (fgt_n _ fgt_0)))))) ?_
  refine s_aload_n (x := 98) dX12_lasts_26 rfl ?_
  refine s_iload_n (x := l1) dX12_lasts_27 rfl ?_
  exact s_callV (as := [zI l1]) (st := []) (o := 98) dX12_lasts_28 kX12_396 rfl ⟨12, 87, TX12, e98, rfl, by decide⟩ rfl rfl (Nat.le_of_ble_eq_true rfl) hS (show fr - 1 + 1 ≤ fr by omega) (Nat.zero_le _) (Nat.zero_le _) (fun v n' h' hP _ => by obtain ⟨x, e, rfl, hR⟩ := hP; cases e; exact kk x h' hR) (fun E n' h' _ z => (rI_nt _ _ _ z).elim)
theorem bX12_lasts_31 {fr M1 M2 b1 b2 : Nat} {Q : RS → Nat → AH → Prop} {h : AH} {l1 l2 s0 : Int} {x3 x4 x5 : AV}  (r1 : -2147483648 ≤ s0 ∧ s0 < 2147483648 := by omega) (kt : s0 = 0 → Wp mX12_lasts (kR fr M1 M2) Q (b1, b2) 98 [zR 98, zI l1, zI l2, none, none, none] [] 137 h) (kf : ¬ s0 = 0 → Wp mX12_lasts (kR fr M1 M2) Q (b1, b2) 34 [zR 98, zI l1, zI l2, none, none, none] [] 137 h) : Wp mX12_lasts (kR fr M1 M2) Q (b1, b2) 31 [zR 98, zI l1, zI l2, x3, x4, x5] [zI s0] 137 h := by
  refine s_fgt (fgt_c (fgt_c (fgt_c (fgt_n _ (fgt_n _ (fgt_n _ fgt_0)))))) ?_
  exact s_if_eq (tgt := 98) dX12_lasts_31 (by decide) r1 kt kf
theorem bX12_lasts_34 {fr M1 M2 b1 b2 : Nat} {Q : RS → Nat → AH → Prop} {h : AH} {l1 l2 : Int} {x3 x4 x5 : AV}  (r1 : -2147483648 ≤ l2 ∧ l2 < 2147483648 := by omega) (kt : 0 ≤ l2 → Wp mX12_lasts (kR fr M1 M2) Q (b1, b2) 42 [zR 98, zI l1, zI l2, none, none, none] [] 137 h) (kf : l2 < 0 → Wp mX12_lasts (kR fr M1 M2) Q (b1, b2) 38 [zR 98, zI l1, zI l2, none, none, none] [] 137 h) : Wp mX12_lasts (kR fr M1 M2) Q (b1, b2) 34 [zR 98, zI l1, zI l2, x3, x4, x5] [] 137 h := by
  refine s_fgt (fgt_c (fgt_c (fgt_c (fgt_n _ (fgt_n _ (fgt_n _ fgt_0)))))) ?_
  refine s_iload_n (x := l2) dX12_lasts_34 rfl ?_
  exact s_if_ge (tgt := 42) dX12_lasts_35 (by decide) r1 kt kf
theorem bX12_lasts_38 {fr M1 M2 b1 b2 : Nat} {Q : RS → Nat → AH → Prop} {h : AH} {l1 : Int} {x2 x3 x4 x5 : AV}   (kk : Wp mX12_lasts (kR fr M1 M2) Q (b1, b2) 43 [zR 98, zI l1, none, none, none, none] [zI 0] 137 h) : Wp mX12_lasts (kR fr M1 M2) Q (b1, b2) 38 [zR 98, zI l1, x2, x3, x4, x5] [] 137 h := by
  refine s_fgt (fgt_c (fgt_c (fgt_n _ (fgt_n _ (fgt_n _ (fgt_n _ fgt_0)))))) ?_
  refine s_iconst dX12_lasts_38 ?_
  exact s_goto (tgt := 43) dX12_lasts_39 (by decide) kk
theorem bX12_lasts_42 {fr M1 M2 b1 b2 : Nat} {Q : RS → Nat → AH → Prop} {h : AH} {l1 l2 : Int} {x3 x4 x5 : AV}   (kk : Wp mX12_lasts (kR fr M1 M2) Q (b1, b2) 43 [zR 98, zI l1, zI l2, none, none, none] [zI l2] 137 h) : Wp mX12_lasts (kR fr M1 M2) Q (b1, b2) 42 [zR 98, zI l1, zI l2, x3, x4, x5] [] 137 h := by
  refine s_fgt (fgt_c (fgt_c (fgt_c (fgt_n _ (fgt_n _ (fgt_n _ fgt_0)))))) ?_
  refine s_iload_n (x := l2) dX12_lasts_42 rfl ?_
  exact kk
theorem bX12_lasts_43 {fr M1 M2 b1 b2 : Nat} {Q : RS → Nat → AH → Prop} {h : AH} {l1 s0 : Int} {x2 x3 x4 x5 : AV}   (kk : Wp mX12_lasts (kR fr M1 M2) Q (b1, b2) 51 [zR 98, zI l1, zI s0, none, zI 0, zI 100] [] 137 h) : Wp mX12_lasts (kR fr M1 M2) Q (b1, b2) 43 [zR 98, zI l1, x2, x3, x4, x5] [zI s0] 137 h := by
  refine s_fgt (fgt_c (fgt_c (fgt_n _ (fgt_n _ (fgt_n _ (fgt_n _ fgt_0)))))) ?_
  refine s_istore_n dX12_lasts_43 rfl (by decide) ?_
  refine s_iconst dX12_lasts_44 ?_
  refine s_istore dX12_lasts_45 rfl (by decide) ?_
  refine s_bipush dX12_lasts_47 (by decide) ?_
  refine s_istore dX12_lasts_49 rfl (by decide) ?_
  exact kk
theorem bX12_lasts_51 {fr M1 M2 b1 b2 : Nat} {Q : RS → Nat → AH → Prop} {h : AH} {l1 l2 l4 l5 : Int} {x3 : AV}  (r1 : -2147483648 ≤ l5 ∧ l5 < 2147483648 := by omega) (r2 : -2147483648 ≤ l2 ∧ l2 < 2147483648 := by omega) (kt : l5 ≤ l2 → Wp mX12_lasts (kR fr M1 M2) Q (b1, b2) 93 [zR 98, zI l1, zI l2, none, zI l4, zI l5] [] 137 h) (kf : l2 < l5 → Wp mX12_lasts (kR fr M1 M2) Q (b1, b2) 57 [zR 98, zI l1, zI l2, none, zI l4, zI l5] [] 137 h) : Wp mX12_lasts (kR fr M1 M2) Q (b1, b2) 51 [zR 98, zI l1, zI l2, x3, zI l4, zI l5] [] 137 h := by
  refine s_fgt (fgt_c (fgt_c (fgt_c (fgt_n _ (fgt_c (fgt_c fgt_0)))))) ?_
  refine s_iload (x := l5) dX12_lasts_51 rfl ?_
  refine s_iload_n (x := l2) dX12_lasts_53 rfl ?_
  exact s_icmp_le (tgt := 93) dX12_lasts_54 (by decide) r1 r2 kt kf
theorem bX12_lasts_57 {fr M1 M2 b1 b2 : Nat} {Q : RS → Nat → AH → Prop} {h : AH} {l1 l2 l4 l5 : Int} {x3 : AV}  (r1 : -2147483648 ≤ l4 ∧ l4 < 2147483648 := by omega) (kt : ¬ l4 = 0 → Wp mX12_lasts (kR fr M1 M2) Q (b1, b2) 93 [zR 98, zI l1, zI l2, none, zI l4, zI l5] [] 137 h) (kf : l4 = 0 → Wp mX12_lasts (kR fr M1 M2) Q (b1, b2) 62 [zR 98, zI l1, zI l2, none, zI l4, zI l5] [] 137 h) : Wp mX12_lasts (kR fr M1 M2) Q (b1, b2) 57 [zR 98, zI l1, zI l2, x3, zI l4, zI l5] [] 137 h := by
  refine s_fgt (fgt_c (fgt_c (fgt_c (fgt_n _ (fgt_c (fgt_c fgt_0)))))) ?_
  refine s_iload (x := l4) dX12_lasts_57 rfl ?_
  exact s_if_ne (tgt := 93) dX12_lasts_59 (by decide) r1 kt kf
theorem bX12_lasts_62 {fr M1 M2 b1 b2 : Nat} {Q : RS → Nat → AH → Prop} {h : AH} {l1 l2 l5 : Int} {x3 x4 : AV} {R : Int → AH → Prop}   (hS : Sp mX12_answers true (fr - 1) 0 0 [zR 98, zI l1] 137 (up h 98 46 l5) (rI R)) (hf : 1 ≤ fr := by omega) (kk : ∀ (x : Int) (h' : AH), R x h' → Wp mX12_lasts (kR fr M1 M2) Q (b1, b2) 73 [zR 98, zI l1, zI l2, none, none, zI l5] [zI x] 137 h') : Wp mX12_lasts (kR fr M1 M2) Q (b1, b2) 62 [zR 98, zI l1, zI l2, x3, x4, zI l5] [] 137 h := by
  refine s_fgt (fgt_c (fgt_c (fgt_c (fgt_n _ (fgt_n _ (fgt_c fgt_0)))))) ?_
  refine s_aload_n (x := 98) dX12_lasts_62 rfl ?_
  refine s_iload (x := l5) dX12_lasts_63 rfl ?_
  refine s_put (c := 98) dX12_lasts_65 lX12_322 e98 ?_
  refine s_aload_n (x := 98) dX12_lasts_68 rfl ?_
  refine s_iload_n (x := l1) dX12_lasts_69 rfl ?_
  exact s_callV (as := [zI l1]) (st := []) (o := 98) dX12_lasts_70 kX12_396 rfl ⟨12, 87, TX12, e98, rfl, by decide⟩ rfl rfl (Nat.le_of_ble_eq_true rfl) hS (show fr - 1 + 1 ≤ fr by omega) (Nat.zero_le _) (Nat.zero_le _) (fun v n' h' hP _ => by obtain ⟨x, e, rfl, hR⟩ := hP; cases e; exact kk x h' hR) (fun E n' h' _ z => (rI_nt _ _ _ z).elim)
theorem bX12_lasts_73 {fr M1 M2 b1 b2 : Nat} {Q : RS → Nat → AH → Prop} {h : AH} {l1 l2 l5 s0 : Int} {x3 x4 : AV}  (r1 : -2147483648 ≤ s0 ∧ s0 < 2147483648 := by omega) (kt : s0 = 0 → Wp mX12_lasts (kR fr M1 M2) Q (b1, b2) 85 [zR 98, zI l1, zI l2, none, zI s0, zI l5] [] 137 h) (kf : ¬ s0 = 0 → Wp mX12_lasts (kR fr M1 M2) Q (b1, b2) 80 [zR 98, zI l1, zI l2, none, zI s0, zI l5] [] 137 h) : Wp mX12_lasts (kR fr M1 M2) Q (b1, b2) 73 [zR 98, zI l1, zI l2, x3, x4, zI l5] [zI s0] 137 h := by
  refine s_fgt (fgt_c (fgt_c (fgt_c (fgt_n _ (fgt_n _ (fgt_c fgt_0)))))) ?_
  refine s_istore dX12_lasts_73 rfl (by decide) ?_
  refine s_iload (x := s0) dX12_lasts_75 rfl ?_
  exact s_if_eq (tgt := 85) dX12_lasts_77 (by decide) r1 kt kf
theorem bX12_lasts_80 {fr M1 M2 b1 b2 : Nat} {Q : RS → Nat → AH → Prop} {h : AH} {l1 l4 l5 : Int} {x2 x3 : AV}   (kk : Wp mX12_lasts (kR fr M1 M2) Q (b1, b2) 86 [zR 98, zI l1, none, none, zI l4, zI l5] [zI l5] 137 h) : Wp mX12_lasts (kR fr M1 M2) Q (b1, b2) 80 [zR 98, zI l1, x2, x3, zI l4, zI l5] [] 137 h := by
  refine s_fgt (fgt_c (fgt_c (fgt_n _ (fgt_n _ (fgt_c (fgt_c fgt_0)))))) ?_
  refine s_iload (x := l5) dX12_lasts_80 rfl ?_
  exact s_goto (tgt := 86) dX12_lasts_82 (by decide) kk
theorem bX12_lasts_85 {fr M1 M2 b1 b2 : Nat} {Q : RS → Nat → AH → Prop} {h : AH} {l1 l2 l4 l5 : Int} {x3 : AV}   (kk : Wp mX12_lasts (kR fr M1 M2) Q (b1, b2) 86 [zR 98, zI l1, zI l2, none, zI l4, zI l5] [zI l2] 137 h) : Wp mX12_lasts (kR fr M1 M2) Q (b1, b2) 85 [zR 98, zI l1, zI l2, x3, zI l4, zI l5] [] 137 h := by
  refine s_fgt (fgt_c (fgt_c (fgt_c (fgt_n _ (fgt_c (fgt_c fgt_0)))))) ?_
  refine s_iload_n (x := l2) dX12_lasts_85 rfl ?_
  exact kk
theorem bX12_lasts_86 {fr M1 M2 b1 b2 : Nat} {Q : RS → Nat → AH → Prop} {h : AH} {l1 l4 l5 s0 : Int} {x2 x3 : AV}   (kk : Wp mX12_lasts (kR fr M1 M2) Q (b1, b2) 51 [zR 98, zI l1, zI s0, none, zI l4, zI (l5 + (-1))] [] 137 h) : Wp mX12_lasts (kR fr M1 M2) Q (b1, b2) 86 [zR 98, zI l1, x2, x3, zI l4, zI l5] [zI s0] 137 h := by
  refine s_fgt (fgt_c (fgt_c (fgt_n _ (fgt_n _ (fgt_c (fgt_c fgt_0)))))) ?_
  refine s_istore_n dX12_lasts_86 rfl (by decide) ?_
  refine s_iinc (x := l5) dX12_lasts_87 rfl rfl (by decide) ?_
  exact s_goto (tgt := 51) dX12_lasts_90 (by decide) kk
theorem bX12_lasts_93 {fr M1 M2 b1 b2 : Nat} {Q : RS → Nat → AH → Prop} {h : AH} {l1 l2 : Int} {x3 x4 x5 : AV}   (kk : Wp mX12_lasts (kR fr M1 M2) Q (b1, b2) 98 [zR 98, zI l1, zI l2, none, none, none] [] 137 (up h 98 46 0)) : Wp mX12_lasts (kR fr M1 M2) Q (b1, b2) 93 [zR 98, zI l1, zI l2, x3, x4, x5] [] 137 h := by
  refine s_fgt (fgt_c (fgt_c (fgt_c (fgt_n _ (fgt_n _ (fgt_n _ fgt_0)))))) ?_
  refine s_aload_n (x := 98) dX12_lasts_93 rfl ?_
  refine s_iconst dX12_lasts_94 ?_
  refine s_put (c := 98) dX12_lasts_95 lX12_322 e98 ?_
  exact kk
theorem bX12_lasts_98 {fr M1 M2 b1 b2 : Nat} {Q : RS → Nat → AH → Prop} {h : AH} {l1 l2 : Int} {x3 x4 x5 : AV} {R : Int → AH → Prop}   (hS : Sp mX12_nextLine true (fr - 1) 0 0 [zR 98] 137 h (rI R)) (hf : 1 ≤ fr := by omega) (kk : ∀ (x : Int) (h' : AH), R x h' → Wp mX12_lasts (kR fr M1 M2) Q (b1, b2) 102 [zR 98, zI l1, zI l2, none, none, none] [zI x] 137 h') : Wp mX12_lasts (kR fr M1 M2) Q (b1, b2) 98 [zR 98, zI l1, zI l2, x3, x4, x5] [] 137 h := by
  refine s_fgt (fgt_c (fgt_c (fgt_c (fgt_n _ (fgt_n _ (fgt_n _ fgt_0)))))) ?_
  refine s_aload_n (x := 98) dX12_lasts_98 rfl ?_
  exact s_callV (as := []) (st := []) (o := 98) dX12_lasts_99 kX12_405 rfl ⟨12, 87, TX12, e98, rfl, by decide⟩ rfl rfl (Nat.le_of_ble_eq_true rfl) hS (show fr - 1 + 1 ≤ fr by omega) (Nat.zero_le _) (Nat.zero_le _) (fun v n' h' hP _ => by obtain ⟨x, e, rfl, hR⟩ := hP; cases e; exact kk x h' hR) (fun E n' h' _ z => (rI_nt _ _ _ z).elim)
theorem bX12_lasts_102 {fr M1 M2 b1 b2 : Nat} {Q : RS → Nat → AH → Prop} {h : AH} {l1 l2 s0 : Int} {x3 x4 x5 : AV}   (kk : Wp mX12_lasts (kR fr M1 M2) Q (b1, b2) 22 [zR 98, zI l1, zI l2, zI s0, none, none] [] 137 h) : Wp mX12_lasts (kR fr M1 M2) Q (b1, b2) 102 [zR 98, zI l1, zI l2, x3, x4, x5] [zI s0] 137 h := by
  refine s_fgt (fgt_c (fgt_c (fgt_c (fgt_n _ (fgt_n _ (fgt_n _ fgt_0)))))) ?_
  refine s_istore_n dX12_lasts_102 rfl (by decide) ?_
  exact s_goto (tgt := 22) dX12_lasts_103 (by decide) kk
theorem bX12_lasts_106 {fr M1 M2 b1 b2 : Nat} {Q : RS → Nat → AH → Prop} {h : AH} {l2 : Int} {x0 x1 x3 x4 x5 : AV}   (hq : Q (.inl (some (zI l2))) 137 h) : Wp mX12_lasts (kR fr M1 M2) Q (b1, b2) 106 [x0, x1, zI l2, x3, x4, x5] [] 137 h := by
  refine s_fgt (fgt_n _ (fgt_n _ (fgt_c (fgt_n _ (fgt_n _ (fgt_n _ fgt_0)))))) ?_
  refine s_iload_n (x := l2) dX12_lasts_106 rfl ?_
  exact s_ireturn dX12_lasts_107 ⟨.int, rfl, rfl⟩ hq (fun z => by cases z)
theorem dX12_sing_0 : decode mX12_sing.cd 0 = .ok (.aload_n 0, 1) := by decide +kernel
theorem dX12_sing_1 : decode mX12_sing.cd 1 = .ok (.iconst 0, 1) := by decide +kernel
theorem dX12_sing_2 : decode mX12_sing.cd 2 = .ok (.putfield 136, 3) := by decide +kernel
theorem dX12_sing_5 : decode mX12_sing.cd 5 = .ok (.aload_n 0, 1) := by decide +kernel
theorem dX12_sing_6 : decode mX12_sing.cd 6 = .ok (.iload_n 1, 1) := by decide +kernel
theorem dX12_sing_7 : decode mX12_sing.cd 7 = .ok (.iconst 0, 1) := by decide +kernel
theorem dX12_sing_8 : decode mX12_sing.cd 8 = .ok (.bipush 15, 2) := by decide +kernel
theorem dX12_sing_10 : decode mX12_sing.cd 10 = .ok (.invokestatic 301, 3) := by decide +kernel
theorem dX12_sing_13 : decode mX12_sing.cd 13 = .ok (.iconst 1, 1) := by decide +kernel
theorem dX12_sing_14 : decode mX12_sing.cd 14 = .ok (.invokevirtual 260, 3) := by decide +kernel
theorem dX12_sing_17 : decode mX12_sing.cd 17 = .ok (.ifCond .eq 16, 3) := by decide +kernel
theorem dX12_sing_20 : decode mX12_sing.cd 20 = .ok (.iload_n 2, 1) := by decide +kernel
theorem dX12_sing_21 : decode mX12_sing.cd 21 = .ok (.iconst (-1), 1) := by decide +kernel
theorem dX12_sing_22 : decode mX12_sing.cd 22 = .ok (.if_icmp .eq 13, 3) := by decide +kernel
theorem dX12_sing_25 : decode mX12_sing.cd 25 = .ok (.aload_n 0, 1) := by decide +kernel
theorem dX12_sing_26 : decode mX12_sing.cd 26 = .ok (.iload_n 2, 1) := by decide +kernel
theorem dX12_sing_27 : decode mX12_sing.cd 27 = .ok (.invokevirtual 325, 3) := by decide +kernel
theorem dX12_sing_30 : decode mX12_sing.cd 30 = .ok (.ifCond .ne 5, 3) := by decide +kernel
theorem dX12_sing_33 : decode mX12_sing.cd 33 = .ok (.iconst 0, 1) := by decide +kernel
theorem dX12_sing_34 : decode mX12_sing.cd 34 = .ok (.ireturn, 1) := by decide +kernel
theorem dX12_sing_35 : decode mX12_sing.cd 35 = .ok (.aload_n 0, 1) := by decide +kernel
theorem dX12_sing_36 : decode mX12_sing.cd 36 = .ok (.getfield 92, 3) := by decide +kernel
theorem dX12_sing_39 : decode mX12_sing.cd 39 = .ok (.iload_n 1, 1) := by decide +kernel
theorem dX12_sing_40 : decode mX12_sing.cd 40 = .ok (.iload_n 2, 1) := by decide +kernel
theorem dX12_sing_41 : decode mX12_sing.cd 41 = .ok (.iastore, 1) := by decide +kernel
theorem dX12_sing_42 : decode mX12_sing.cd 42 = .ok (.aload_n 0, 1) := by decide +kernel
theorem dX12_sing_43 : decode mX12_sing.cd 43 = .ok (.iload_n 1, 1) := by decide +kernel
theorem dX12_sing_44 : decode mX12_sing.cd 44 = .ok (.aload_n 0, 1) := by decide +kernel
theorem dX12_sing_45 : decode mX12_sing.cd 45 = .ok (.getfield 295, 3) := by decide +kernel
theorem dX12_sing_48 : decode mX12_sing.cd 48 = .ok (.if_icmp .lt 9, 3) := by decide +kernel
theorem dX12_sing_51 : decode mX12_sing.cd 51 = .ok (.iload_n 1, 1) := by decide +kernel
theorem dX12_sing_52 : decode mX12_sing.cd 52 = .ok (.iconst 1, 1) := by decide +kernel
theorem dX12_sing_53 : decode mX12_sing.cd 53 = .ok (.iadd, 1) := by decide +kernel
theorem dX12_sing_54 : decode mX12_sing.cd 54 = .ok (.goto 7, 3) := by decide +kernel
theorem dX12_sing_57 : decode mX12_sing.cd 57 = .ok (.aload_n 0, 1) := by decide +kernel
theorem dX12_sing_58 : decode mX12_sing.cd 58 = .ok (.getfield 295, 3) := by decide +kernel
theorem dX12_sing_61 : decode mX12_sing.cd 61 = .ok (.putfield 295, 3) := by decide +kernel
theorem dX12_sing_64 : decode mX12_sing.cd 64 = .ok (.aload_n 0, 1) := by decide +kernel
theorem dX12_sing_65 : decode mX12_sing.cd 65 = .ok (.getfield 295, 3) := by decide +kernel
theorem dX12_sing_68 : decode mX12_sing.cd 68 = .ok (.ireturn, 1) := by decide +kernel
theorem bX12_sing_0 {fr M1 M2 b1 b2 : Nat} {Q : RS → Nat → AH → Prop} {h : AH} {l1 l2 : Int} {R : Int → AH → Prop}   (hS : Sp mX12_within true (fr - 1) 0 0 [zI l1, zI 0, zI 15] 137 (up h 98 0 0) (rI R)) (hf : 1 ≤ fr := by omega) (kk : ∀ (x : Int) (h' : AH), R x h' → Wp mX12_sing (kR fr M1 M2) Q (b1, b2) 13 [zR 98, zI l1, zI l2] [zI x, zR 98] 137 h') : Wp mX12_sing (kR fr M1 M2) Q (b1, b2) 0 [zR 98, zI l1, zI l2] [] 137 h := by
  refine s_aload_n (x := 98) dX12_sing_0 rfl ?_
  refine s_iconst dX12_sing_1 ?_
  refine s_put (c := 98) dX12_sing_2 lX12_136 e98 ?_
  refine s_aload_n (x := 98) dX12_sing_5 rfl ?_
  refine s_iload_n (x := l1) dX12_sing_6 rfl ?_
  refine s_iconst dX12_sing_7 ?_
  refine s_bipush dX12_sing_8 (by decide) ?_
  exact s_callS (as := [zI l1, zI 0, zI 15]) (st := [zR 98]) dX12_sing_10 kX12_301 rfl rfl (Nat.le_of_ble_eq_true rfl) hS (show fr - 1 + 1 ≤ fr by omega) (Nat.zero_le _) (Nat.zero_le _) (fun v n' h' hP _ => by obtain ⟨x, e, rfl, hR⟩ := hP; cases e; exact kk x h' hR) (fun E n' h' _ z => (rI_nt _ _ _ z).elim)
theorem bX12_sing_13 {fr M1 M2 b1 b2 : Nat} {Q : RS → Nat → AH → Prop} {h : AH} {l1 l2 s0 : Int} {R : Int → AH → Prop}   (hS : Sp mX12_right true (fr - 1) 0 0 [zR 98, zI s0, zI 1] 137 h (rI R)) (hf : 1 ≤ fr := by omega) (kk : ∀ (x : Int) (h' : AH), R x h' → Wp mX12_sing (kR fr M1 M2) Q (b1, b2) 17 [zR 98, zI l1, zI l2] [zI x] 137 h') : Wp mX12_sing (kR fr M1 M2) Q (b1, b2) 13 [zR 98, zI l1, zI l2] [zI s0, zR 98] 137 h := by
  refine s_iconst dX12_sing_13 ?_
  exact s_callV (as := [zI s0, zI 1]) (st := []) (o := 98) dX12_sing_14 kX12_260 rfl ⟨12, 87, TX12, e98, rfl, by decide⟩ rfl rfl (Nat.le_of_ble_eq_true rfl) hS (show fr - 1 + 1 ≤ fr by omega) (Nat.zero_le _) (Nat.zero_le _) (fun v n' h' hP _ => by obtain ⟨x, e, rfl, hR⟩ := hP; cases e; exact kk x h' hR) (fun E n' h' _ z => (rI_nt _ _ _ z).elim)
theorem bX12_sing_17 {fr M1 M2 b1 b2 : Nat} {Q : RS → Nat → AH → Prop} {h : AH} {l1 l2 s0 : Int}  (r1 : -2147483648 ≤ s0 ∧ s0 < 2147483648 := by omega) (kt : s0 = 0 → Wp mX12_sing (kR fr M1 M2) Q (b1, b2) 33 [zR 98, zI l1, zI l2] [] 137 h) (kf : ¬ s0 = 0 → Wp mX12_sing (kR fr M1 M2) Q (b1, b2) 20 [zR 98, zI l1, zI l2] [] 137 h) : Wp mX12_sing (kR fr M1 M2) Q (b1, b2) 17 [zR 98, zI l1, zI l2] [zI s0] 137 h := by
  exact s_if_eq (tgt := 33) dX12_sing_17 (by decide) r1 kt kf
theorem bX12_sing_20 {fr M1 M2 b1 b2 : Nat} {Q : RS → Nat → AH → Prop} {h : AH} {l1 l2 : Int}  (r1 : -2147483648 ≤ l2 ∧ l2 < 2147483648 := by omega) (kt : l2 = (-1) → Wp mX12_sing (kR fr M1 M2) Q (b1, b2) 35 [zR 98, zI l1, zI l2] [] 137 h) (kf : ¬ l2 = (-1) → Wp mX12_sing (kR fr M1 M2) Q (b1, b2) 25 [zR 98, zI l1, zI l2] [] 137 h) : Wp mX12_sing (kR fr M1 M2) Q (b1, b2) 20 [zR 98, zI l1, zI l2] [] 137 h := by
  refine s_iload_n (x := l2) dX12_sing_20 rfl ?_
  refine s_iconst dX12_sing_21 ?_
  exact s_icmp_eq (tgt := 35) dX12_sing_22 (by decide) r1 ⟨by decide, by decide⟩ kt kf
theorem bX12_sing_25 {fr M1 M2 b1 b2 : Nat} {Q : RS → Nat → AH → Prop} {h : AH} {l1 l2 : Int} {R : Int → AH → Prop}   (hS : Sp mX12_isSound true (fr - 1) 0 0 [zR 98, zI l2] 137 h (rI R)) (hf : 1 ≤ fr := by omega) (kk : ∀ (x : Int) (h' : AH), R x h' → Wp mX12_sing (kR fr M1 M2) Q (b1, b2) 30 [zR 98, zI l1, zI l2] [zI x] 137 h') : Wp mX12_sing (kR fr M1 M2) Q (b1, b2) 25 [zR 98, zI l1, zI l2] [] 137 h := by
  refine s_aload_n (x := 98) dX12_sing_25 rfl ?_
  refine s_iload_n (x := l2) dX12_sing_26 rfl ?_
  exact s_callV (as := [zI l2]) (st := []) (o := 98) dX12_sing_27 kX12_325 rfl ⟨12, 87, TX12, e98, rfl, by decide⟩ rfl rfl (Nat.le_of_ble_eq_true rfl) hS (show fr - 1 + 1 ≤ fr by omega) (Nat.zero_le _) (Nat.zero_le _) (fun v n' h' hP _ => by obtain ⟨x, e, rfl, hR⟩ := hP; cases e; exact kk x h' hR) (fun E n' h' _ z => (rI_nt _ _ _ z).elim)
theorem bX12_sing_30 {fr M1 M2 b1 b2 : Nat} {Q : RS → Nat → AH → Prop} {h : AH} {l1 l2 s0 : Int}  (r1 : -2147483648 ≤ s0 ∧ s0 < 2147483648 := by omega) (kt : ¬ s0 = 0 → Wp mX12_sing (kR fr M1 M2) Q (b1, b2) 35 [zR 98, zI l1, zI l2] [] 137 h) (kf : s0 = 0 → Wp mX12_sing (kR fr M1 M2) Q (b1, b2) 33 [zR 98, zI l1, zI l2] [] 137 h) : Wp mX12_sing (kR fr M1 M2) Q (b1, b2) 30 [zR 98, zI l1, zI l2] [zI s0] 137 h := by
  exact s_if_ne (tgt := 35) dX12_sing_30 (by decide) r1 kt kf
theorem bX12_sing_33 {fr M1 M2 b1 b2 : Nat} {Q : RS → Nat → AH → Prop} {h : AH} {x0 x1 x2 : AV}   (hq : Q (.inl (some (zI 0))) 137 h) : Wp mX12_sing (kR fr M1 M2) Q (b1, b2) 33 [x0, x1, x2] [] 137 h := by
  refine s_fgt (fgt_n _ (fgt_n _ (fgt_n _ fgt_0))) ?_
  refine s_iconst dX12_sing_33 ?_
  exact s_ireturn dX12_sing_34 ⟨.int, rfl, rfl⟩ hq (fun z => by cases z)
theorem bX12_sing_35 {fr M1 M2 b1 b2 : Nat} {Q : RS → Nat → AH → Prop} {h : AH} {l1 l2 : Int}  (r1 : 0 ≤ l1 ∧ l1 < 16 := by omega) (r2 : -2147483648 ≤ l1 ∧ l1 < 2147483648 := by omega) (r3 : -2147483648 ≤ h 98 66 ∧ h 98 66 < 2147483648 := by omega) (kt : l1 < h 98 66 → Wp mX12_sing (kR fr M1 M2) Q (b1, b2) 57 [zR 98, zI l1, zI l2] [zR 98] 137 (up h 123 l1 l2)) (kf : h 98 66 ≤ l1 → Wp mX12_sing (kR fr M1 M2) Q (b1, b2) 51 [zR 98, zI l1, zI l2] [zR 98] 137 (up h 123 l1 l2)) : Wp mX12_sing (kR fr M1 M2) Q (b1, b2) 35 [zR 98, zI l1, zI l2] [] 137 h := by
  refine s_aload_n (x := 98) dX12_sing_35 rfl ?_
  refine s_getFd (c := 98) (d := 123) dX12_sing_36 lX12_92 e98 (Or.inl rfl) (by decide) (by decide) ?_
  refine s_iload_n (x := l1) dX12_sing_39 rfl ?_
  refine s_iload_n (x := l2) dX12_sing_40 rfl ?_
  refine s_iast (c := 123) (i := l1) dX12_sing_41 e123 r1.1 r1.2 ?_
  refine s_aload_n (x := 98) dX12_sing_42 rfl ?_
  refine s_iload_n (x := l1) dX12_sing_43 rfl ?_
  refine s_aload_n (x := 98) dX12_sing_44 rfl ?_
  refine s_get (c := 98) dX12_sing_45 lX12_295 e98 (by decide) ?_
  exact s_icmp_lt (tgt := 57) dX12_sing_48 (by decide) r2 r3 kt kf
theorem bX12_sing_51 {fr M1 M2 b1 b2 : Nat} {Q : RS → Nat → AH → Prop} {h : AH} {l1 : Int} {x2 : AV}   (kk : Wp mX12_sing (kR fr M1 M2) Q (b1, b2) 61 [zR 98, zI l1, none] [zI (l1 + 1), zR 98] 137 h) : Wp mX12_sing (kR fr M1 M2) Q (b1, b2) 51 [zR 98, zI l1, x2] [zR 98] 137 h := by
  refine s_fgt (fgt_c (fgt_c (fgt_n _ fgt_0))) ?_
  refine s_iload_n (x := l1) dX12_sing_51 rfl ?_
  refine s_iconst dX12_sing_52 ?_
  refine s_iadd dX12_sing_53 ?_
  exact s_goto (tgt := 61) dX12_sing_54 (by decide) kk
theorem bX12_sing_57 {fr M1 M2 b1 b2 : Nat} {Q : RS → Nat → AH → Prop} {h : AH} {x1 x2 : AV}   (kk : Wp mX12_sing (kR fr M1 M2) Q (b1, b2) 61 [zR 98, none, none] [zI (h 98 66), zR 98] 137 h) : Wp mX12_sing (kR fr M1 M2) Q (b1, b2) 57 [zR 98, x1, x2] [zR 98] 137 h := by
  refine s_fgt (fgt_c (fgt_n _ (fgt_n _ fgt_0))) ?_
  refine s_aload_n (x := 98) dX12_sing_57 rfl ?_
  refine s_get (c := 98) dX12_sing_58 lX12_295 e98 (by decide) ?_
  exact kk
theorem bX12_sing_61 {fr M1 M2 b1 b2 : Nat} {Q : RS → Nat → AH → Prop} {h : AH} {s0 : Int} {x1 x2 : AV}   (hq : Q (.inl (some (zI s0))) 137 (up h 98 66 s0)) : Wp mX12_sing (kR fr M1 M2) Q (b1, b2) 61 [zR 98, x1, x2] [zI s0, zR 98] 137 h := by
  refine s_fgt (fgt_c (fgt_n _ (fgt_n _ fgt_0))) ?_
  refine s_put (c := 98) dX12_sing_61 lX12_295 e98 ?_
  refine s_aload_n (x := 98) dX12_sing_64 rfl ?_
  refine s_get (c := 98) dX12_sing_65 lX12_295 e98 (by decide) ?_
  exact s_ireturn dX12_sing_68 ⟨.int, rfl, rfl⟩ hq (fun z => by cases z)
theorem dX12_clashes_0 : decode mX12_clashes.cd 0 = .ok (.aload_n 0, 1) := by decide +kernel
theorem dX12_clashes_1 : decode mX12_clashes.cd 1 = .ok (.iload_n 1, 1) := by decide +kernel
theorem dX12_clashes_2 : decode mX12_clashes.cd 2 = .ok (.iconst 0, 1) := by decide +kernel
theorem dX12_clashes_3 : decode mX12_clashes.cd 3 = .ok (.bipush 12, 2) := by decide +kernel
theorem dX12_clashes_5 : decode mX12_clashes.cd 5 = .ok (.invokevirtual 328, 3) := by decide +kernel
theorem dX12_clashes_8 : decode mX12_clashes.cd 8 = .ok (.iconst 0, 1) := by decide +kernel
theorem dX12_clashes_9 : decode mX12_clashes.cd 9 = .ok (.istore_n 2, 1) := by decide +kernel
theorem dX12_clashes_10 : decode mX12_clashes.cd 10 = .ok (.iload_n 2, 1) := by decide +kernel
theorem dX12_clashes_11 : decode mX12_clashes.cd 11 = .ok (.aload_n 0, 1) := by decide +kernel
theorem dX12_clashes_12 : decode mX12_clashes.cd 12 = .ok (.getfield 295, 3) := by decide +kernel
theorem dX12_clashes_15 : decode mX12_clashes.cd 15 = .ok (.if_icmp .ge 195, 3) := by decide +kernel
theorem dX12_clashes_18 : decode mX12_clashes.cd 18 = .ok (.aload_n 0, 1) := by decide +kernel
theorem dX12_clashes_19 : decode mX12_clashes.cd 19 = .ok (.getfield 92, 3) := by decide +kernel
theorem dX12_clashes_22 : decode mX12_clashes.cd 22 = .ok (.iload_n 2, 1) := by decide +kernel
theorem dX12_clashes_23 : decode mX12_clashes.cd 23 = .ok (.iaload, 1) := by decide +kernel
theorem dX12_clashes_24 : decode mX12_clashes.cd 24 = .ok (.istore_n 3, 1) := by decide +kernel
theorem dX12_clashes_25 : decode mX12_clashes.cd 25 = .ok (.iload_n 3, 1) := by decide +kernel
theorem dX12_clashes_26 : decode mX12_clashes.cd 26 = .ok (.iconst (-1), 1) := by decide +kernel
theorem dX12_clashes_27 : decode mX12_clashes.cd 27 = .ok (.if_icmp .ne 6, 3) := by decide +kernel
theorem dX12_clashes_30 : decode mX12_clashes.cd 30 = .ok (.goto 174, 3) := by decide +kernel
theorem dX12_clashes_33 : decode mX12_clashes.cd 33 = .ok (.aload_n 0, 1) := by decide +kernel
theorem dX12_clashes_34 : decode mX12_clashes.cd 34 = .ok (.getfield 65, 3) := by decide +kernel
theorem dX12_clashes_37 : decode mX12_clashes.cd 37 = .ok (.bipush 8, 2) := by decide +kernel
theorem dX12_clashes_39 : decode mX12_clashes.cd 39 = .ok (.iload_n 2, 1) := by decide +kernel
theorem dX12_clashes_40 : decode mX12_clashes.cd 40 = .ok (.imul, 1) := by decide +kernel
theorem dX12_clashes_41 : decode mX12_clashes.cd 41 = .ok (.iload_n 3, 1) := by decide +kernel
theorem dX12_clashes_42 : decode mX12_clashes.cd 42 = .ok (.iadd, 1) := by decide +kernel
theorem dX12_clashes_43 : decode mX12_clashes.cd 43 = .ok (.dup2, 1) := by decide +kernel
theorem dX12_clashes_44 : decode mX12_clashes.cd 44 = .ok (.iaload, 1) := by decide +kernel
theorem dX12_clashes_45 : decode mX12_clashes.cd 45 = .ok (.aload_n 0, 1) := by decide +kernel
theorem dX12_clashes_46 : decode mX12_clashes.cd 46 = .ok (.getfield 13, 3) := by decide +kernel
theorem dX12_clashes_49 : decode mX12_clashes.cd 49 = .ok (.iconst 2, 1) := by decide +kernel
theorem dX12_clashes_50 : decode mX12_clashes.cd 50 = .ok (.iload_n 3, 1) := by decide +kernel
theorem dX12_clashes_51 : decode mX12_clashes.cd 51 = .ok (.imul, 1) := by decide +kernel
theorem dX12_clashes_52 : decode mX12_clashes.cd 52 = .ok (.iaload, 1) := by decide +kernel
theorem dX12_clashes_53 : decode mX12_clashes.cd 53 = .ok (.iadd, 1) := by decide +kernel
theorem dX12_clashes_54 : decode mX12_clashes.cd 54 = .ok (.iastore, 1) := by decide +kernel
theorem dX12_clashes_55 : decode mX12_clashes.cd 55 = .ok (.iconst 0, 1) := by decide +kernel
theorem dX12_clashes_56 : decode mX12_clashes.cd 56 = .ok (.istore 4, 2) := by decide +kernel
theorem dX12_clashes_58 : decode mX12_clashes.cd 58 = .ok (.iload 4, 2) := by decide +kernel
theorem dX12_clashes_60 : decode mX12_clashes.cd 60 = .ok (.aload_n 0, 1) := by decide +kernel
theorem dX12_clashes_61 : decode mX12_clashes.cd 61 = .ok (.getfield 270, 3) := by decide +kernel
theorem dX12_clashes_64 : decode mX12_clashes.cd 64 = .ok (.if_icmp .ge 140, 3) := by decide +kernel
theorem dX12_clashes_67 : decode mX12_clashes.cd 67 = .ok (.aload_n 0, 1) := by decide +kernel
theorem dX12_clashes_68 : decode mX12_clashes.cd 68 = .ok (.getfield 17, 3) := by decide +kernel
theorem dX12_clashes_71 : decode mX12_clashes.cd 71 = .ok (.bipush 6, 2) := by decide +kernel
theorem dX12_clashes_73 : decode mX12_clashes.cd 73 = .ok (.iload 4, 2) := by decide +kernel
theorem dX12_clashes_75 : decode mX12_clashes.cd 75 = .ok (.imul, 1) := by decide +kernel
theorem dX12_clashes_76 : decode mX12_clashes.cd 76 = .ok (.iconst 4, 1) := by decide +kernel
theorem dX12_clashes_77 : decode mX12_clashes.cd 77 = .ok (.iadd, 1) := by decide +kernel
theorem dX12_clashes_78 : decode mX12_clashes.cd 78 = .ok (.iaload, 1) := by decide +kernel
theorem dX12_clashes_79 : decode mX12_clashes.cd 79 = .ok (.aload_n 0, 1) := by decide +kernel
theorem dX12_clashes_80 : decode mX12_clashes.cd 80 = .ok (.getfield 13, 3) := by decide +kernel
theorem dX12_clashes_83 : decode mX12_clashes.cd 83 = .ok (.iconst 2, 1) := by decide +kernel
theorem dX12_clashes_84 : decode mX12_clashes.cd 84 = .ok (.iload_n 3, 1) := by decide +kernel
theorem dX12_clashes_85 : decode mX12_clashes.cd 85 = .ok (.imul, 1) := by decide +kernel
theorem dX12_clashes_86 : decode mX12_clashes.cd 86 = .ok (.iconst 1, 1) := by decide +kernel
theorem dX12_clashes_87 : decode mX12_clashes.cd 87 = .ok (.iadd, 1) := by decide +kernel
theorem dX12_clashes_88 : decode mX12_clashes.cd 88 = .ok (.iaload, 1) := by decide +kernel
theorem dX12_clashes_89 : decode mX12_clashes.cd 89 = .ok (.ishr, 1) := by decide +kernel
theorem dX12_clashes_90 : decode mX12_clashes.cd 90 = .ok (.iconst 1, 1) := by decide +kernel
theorem dX12_clashes_91 : decode mX12_clashes.cd 91 = .ok (.iand, 1) := by decide +kernel
theorem dX12_clashes_92 : decode mX12_clashes.cd 92 = .ok (.iconst 1, 1) := by decide +kernel
theorem dX12_clashes_93 : decode mX12_clashes.cd 93 = .ok (.if_icmp .ne 6, 3) := by decide +kernel
theorem dX12_clashes_96 : decode mX12_clashes.cd 96 = .ok (.goto 102, 3) := by decide +kernel
theorem dX12_clashes_99 : decode mX12_clashes.cd 99 = .ok (.aload_n 0, 1) := by decide +kernel
theorem dX12_clashes_100 : decode mX12_clashes.cd 100 = .ok (.getfield 13, 3) := by decide +kernel
theorem dX12_clashes_103 : decode mX12_clashes.cd 103 = .ok (.iconst 2, 1) := by decide +kernel
theorem dX12_clashes_104 : decode mX12_clashes.cd 104 = .ok (.iload_n 3, 1) := by decide +kernel
theorem dX12_clashes_105 : decode mX12_clashes.cd 105 = .ok (.imul, 1) := by decide +kernel
theorem dX12_clashes_106 : decode mX12_clashes.cd 106 = .ok (.iaload, 1) := by decide +kernel
theorem dX12_clashes_107 : decode mX12_clashes.cd 107 = .ok (.istore 5, 2) := by decide +kernel
theorem dX12_clashes_109 : decode mX12_clashes.cd 109 = .ok (.iconst 1, 1) := by decide +kernel
theorem dX12_clashes_110 : decode mX12_clashes.cd 110 = .ok (.istore 6, 2) := by decide +kernel
theorem dX12_clashes_112 : decode mX12_clashes.cd 112 = .ok (.iload 6, 2) := by decide +kernel
theorem dX12_clashes_114 : decode mX12_clashes.cd 114 = .ok (.aload_n 0, 1) := by decide +kernel
theorem dX12_clashes_115 : decode mX12_clashes.cd 115 = .ok (.getfield 17, 3) := by decide +kernel
theorem dX12_clashes_118 : decode mX12_clashes.cd 118 = .ok (.bipush 6, 2) := by decide +kernel
theorem dX12_clashes_120 : decode mX12_clashes.cd 120 = .ok (.iload 4, 2) := by decide +kernel
theorem dX12_clashes_122 : decode mX12_clashes.cd 122 = .ok (.imul, 1) := by decide +kernel
theorem dX12_clashes_123 : decode mX12_clashes.cd 123 = .ok (.iconst 5, 1) := by decide +kernel
theorem dX12_clashes_124 : decode mX12_clashes.cd 124 = .ok (.iadd, 1) := by decide +kernel
theorem dX12_clashes_125 : decode mX12_clashes.cd 125 = .ok (.iaload, 1) := by decide +kernel
theorem dX12_clashes_126 : decode mX12_clashes.cd 126 = .ok (.if_icmp .gt 72, 3) := by decide +kernel
theorem dX12_clashes_129 : decode mX12_clashes.cd 129 = .ok (.iload 5, 2) := by decide +kernel
theorem dX12_clashes_131 : decode mX12_clashes.cd 131 = .ok (.aload_n 0, 1) := by decide +kernel
theorem dX12_clashes_132 : decode mX12_clashes.cd 132 = .ok (.getfield 17, 3) := by decide +kernel
theorem dX12_clashes_135 : decode mX12_clashes.cd 135 = .ok (.bipush 6, 2) := by decide +kernel
theorem dX12_clashes_137 : decode mX12_clashes.cd 137 = .ok (.iload 4, 2) := by decide +kernel
theorem dX12_clashes_139 : decode mX12_clashes.cd 139 = .ok (.imul, 1) := by decide +kernel
theorem dX12_clashes_140 : decode mX12_clashes.cd 140 = .ok (.iconst 3, 1) := by decide +kernel
theorem dX12_clashes_141 : decode mX12_clashes.cd 141 = .ok (.iadd, 1) := by decide +kernel
theorem dX12_clashes_142 : decode mX12_clashes.cd 142 = .ok (.iaload, 1) := by decide +kernel
theorem dX12_clashes_143 : decode mX12_clashes.cd 143 = .ok (.imul, 1) := by decide +kernel
theorem dX12_clashes_144 : decode mX12_clashes.cd 144 = .ok (.bipush 100, 2) := by decide +kernel
theorem dX12_clashes_146 : decode mX12_clashes.cd 146 = .ok (.idiv, 1) := by decide +kernel
theorem dX12_clashes_147 : decode mX12_clashes.cd 147 = .ok (.istore 5, 2) := by decide +kernel
theorem dX12_clashes_149 : decode mX12_clashes.cd 149 = .ok (.aload_n 0, 1) := by decide +kernel
theorem dX12_clashes_150 : decode mX12_clashes.cd 150 = .ok (.getfield 65, 3) := by decide +kernel
theorem dX12_clashes_153 : decode mX12_clashes.cd 153 = .ok (.bipush 8, 2) := by decide +kernel
theorem dX12_clashes_155 : decode mX12_clashes.cd 155 = .ok (.iload_n 2, 1) := by decide +kernel
theorem dX12_clashes_156 : decode mX12_clashes.cd 156 = .ok (.iload 6, 2) := by decide +kernel
theorem dX12_clashes_158 : decode mX12_clashes.cd 158 = .ok (.aload_n 0, 1) := by decide +kernel
theorem dX12_clashes_159 : decode mX12_clashes.cd 159 = .ok (.getfield 17, 3) := by decide +kernel
theorem dX12_clashes_162 : decode mX12_clashes.cd 162 = .ok (.bipush 6, 2) := by decide +kernel
theorem dX12_clashes_164 : decode mX12_clashes.cd 164 = .ok (.iload 4, 2) := by decide +kernel
theorem dX12_clashes_166 : decode mX12_clashes.cd 166 = .ok (.imul, 1) := by decide +kernel
theorem dX12_clashes_167 : decode mX12_clashes.cd 167 = .ok (.iaload, 1) := by decide +kernel
theorem dX12_clashes_168 : decode mX12_clashes.cd 168 = .ok (.imul, 1) := by decide +kernel
theorem dX12_clashes_169 : decode mX12_clashes.cd 169 = .ok (.iadd, 1) := by decide +kernel
theorem dX12_clashes_170 : decode mX12_clashes.cd 170 = .ok (.iload_n 1, 1) := by decide +kernel
theorem dX12_clashes_171 : decode mX12_clashes.cd 171 = .ok (.irem, 1) := by decide +kernel
theorem dX12_clashes_172 : decode mX12_clashes.cd 172 = .ok (.imul, 1) := by decide +kernel
theorem dX12_clashes_173 : decode mX12_clashes.cd 173 = .ok (.iload_n 3, 1) := by decide +kernel
theorem dX12_clashes_174 : decode mX12_clashes.cd 174 = .ok (.iadd, 1) := by decide +kernel
theorem dX12_clashes_175 : decode mX12_clashes.cd 175 = .ok (.dup2, 1) := by decide +kernel
theorem dX12_clashes_176 : decode mX12_clashes.cd 176 = .ok (.iaload, 1) := by decide +kernel
theorem dX12_clashes_177 : decode mX12_clashes.cd 177 = .ok (.iload 5, 2) := by decide +kernel
theorem dX12_clashes_179 : decode mX12_clashes.cd 179 = .ok (.aload_n 0, 1) := by decide +kernel
theorem dX12_clashes_180 : decode mX12_clashes.cd 180 = .ok (.getfield 29, 3) := by decide +kernel
theorem dX12_clashes_183 : decode mX12_clashes.cd 183 = .ok (.bipush 12, 2) := by decide +kernel
theorem dX12_clashes_185 : decode mX12_clashes.cd 185 = .ok (.iaload, 1) := by decide +kernel
theorem dX12_clashes_186 : decode mX12_clashes.cd 186 = .ok (.imul, 1) := by decide +kernel
theorem dX12_clashes_187 : decode mX12_clashes.cd 187 = .ok (.bipush 100, 2) := by decide +kernel
theorem dX12_clashes_189 : decode mX12_clashes.cd 189 = .ok (.idiv, 1) := by decide +kernel
theorem dX12_clashes_190 : decode mX12_clashes.cd 190 = .ok (.iadd, 1) := by decide +kernel
theorem dX12_clashes_191 : decode mX12_clashes.cd 191 = .ok (.iastore, 1) := by decide +kernel
theorem dX12_clashes_192 : decode mX12_clashes.cd 192 = .ok (.iinc 6 1, 3) := by decide +kernel
theorem dX12_clashes_195 : decode mX12_clashes.cd 195 = .ok (.goto (-83), 3) := by decide +kernel
theorem dX12_clashes_198 : decode mX12_clashes.cd 198 = .ok (.iinc 4 1, 3) := by decide +kernel
theorem dX12_clashes_201 : decode mX12_clashes.cd 201 = .ok (.goto (-143), 3) := by decide +kernel
theorem dX12_clashes_204 : decode mX12_clashes.cd 204 = .ok (.iinc 2 1, 3) := by decide +kernel
theorem dX12_clashes_207 : decode mX12_clashes.cd 207 = .ok (.goto (-197), 3) := by decide +kernel
theorem dX12_clashes_210 : decode mX12_clashes.cd 210 = .ok (.iconst 0, 1) := by decide +kernel
theorem dX12_clashes_211 : decode mX12_clashes.cd 211 = .ok (.istore_n 2, 1) := by decide +kernel
theorem dX12_clashes_212 : decode mX12_clashes.cd 212 = .ok (.iconst 0, 1) := by decide +kernel
theorem dX12_clashes_213 : decode mX12_clashes.cd 213 = .ok (.istore_n 3, 1) := by decide +kernel
theorem dX12_clashes_214 : decode mX12_clashes.cd 214 = .ok (.iload_n 3, 1) := by decide +kernel
theorem dX12_clashes_215 : decode mX12_clashes.cd 215 = .ok (.iload_n 1, 1) := by decide +kernel
theorem dX12_clashes_216 : decode mX12_clashes.cd 216 = .ok (.if_icmp .ge 141, 3) := by decide +kernel
theorem dX12_clashes_219 : decode mX12_clashes.cd 219 = .ok (.iconst 0, 1) := by decide +kernel
theorem dX12_clashes_220 : decode mX12_clashes.cd 220 = .ok (.istore 4, 2) := by decide +kernel
theorem dX12_clashes_222 : decode mX12_clashes.cd 222 = .ok (.iconst 0, 1) := by decide +kernel
theorem dX12_clashes_223 : decode mX12_clashes.cd 223 = .ok (.istore 5, 2) := by decide +kernel
theorem dX12_clashes_225 : decode mX12_clashes.cd 225 = .ok (.iload 5, 2) := by decide +kernel
theorem dX12_clashes_227 : decode mX12_clashes.cd 227 = .ok (.aload_n 0, 1) := by decide +kernel
theorem dX12_clashes_228 : decode mX12_clashes.cd 228 = .ok (.getfield 267, 3) := by decide +kernel
theorem dX12_clashes_231 : decode mX12_clashes.cd 231 = .ok (.if_icmp .ge 41, 3) := by decide +kernel
theorem dX12_clashes_234 : decode mX12_clashes.cd 234 = .ok (.iload 4, 2) := by decide +kernel
theorem dX12_clashes_236 : decode mX12_clashes.cd 236 = .ok (.aload_n 0, 1) := by decide +kernel
theorem dX12_clashes_237 : decode mX12_clashes.cd 237 = .ok (.getfield 65, 3) := by decide +kernel
theorem dX12_clashes_240 : decode mX12_clashes.cd 240 = .ok (.bipush 8, 2) := by decide +kernel
theorem dX12_clashes_242 : decode mX12_clashes.cd 242 = .ok (.iload_n 3, 1) := by decide +kernel
theorem dX12_clashes_243 : decode mX12_clashes.cd 243 = .ok (.imul, 1) := by decide +kernel
theorem dX12_clashes_244 : decode mX12_clashes.cd 244 = .ok (.iload 5, 2) := by decide +kernel
theorem dX12_clashes_246 : decode mX12_clashes.cd 246 = .ok (.iadd, 1) := by decide +kernel
theorem dX12_clashes_247 : decode mX12_clashes.cd 247 = .ok (.iaload, 1) := by decide +kernel
theorem dX12_clashes_248 : decode mX12_clashes.cd 248 = .ok (.aload_n 0, 1) := by decide +kernel
theorem dX12_clashes_249 : decode mX12_clashes.cd 249 = .ok (.getfield 7, 3) := by decide +kernel
theorem dX12_clashes_252 : decode mX12_clashes.cd 252 = .ok (.if_icmp .lt 10, 3) := by decide +kernel
theorem dX12_clashes_255 : decode mX12_clashes.cd 255 = .ok (.iconst 1, 1) := by decide +kernel
theorem dX12_clashes_256 : decode mX12_clashes.cd 256 = .ok (.iload 5, 2) := by decide +kernel
theorem dX12_clashes_258 : decode mX12_clashes.cd 258 = .ok (.ishl, 1) := by decide +kernel
theorem dX12_clashes_259 : decode mX12_clashes.cd 259 = .ok (.goto 4, 3) := by decide +kernel
theorem dX12_clashes_262 : decode mX12_clashes.cd 262 = .ok (.iconst 0, 1) := by decide +kernel
theorem dX12_clashes_263 : decode mX12_clashes.cd 263 = .ok (.ior, 1) := by decide +kernel
theorem dX12_clashes_264 : decode mX12_clashes.cd 264 = .ok (.istore 4, 2) := by decide +kernel
theorem dX12_clashes_266 : decode mX12_clashes.cd 266 = .ok (.iinc 5 1, 3) := by decide +kernel
theorem dX12_clashes_269 : decode mX12_clashes.cd 269 = .ok (.goto (-44), 3) := by decide +kernel
theorem dX12_clashes_272 : decode mX12_clashes.cd 272 = .ok (.iconst 0, 1) := by decide +kernel
theorem dX12_clashes_273 : decode mX12_clashes.cd 273 = .ok (.istore 5, 2) := by decide +kernel
theorem dX12_clashes_275 : decode mX12_clashes.cd 275 = .ok (.iconst 0, 1) := by decide +kernel
theorem dX12_clashes_276 : decode mX12_clashes.cd 276 = .ok (.istore 6, 2) := by decide +kernel
theorem dX12_clashes_278 : decode mX12_clashes.cd 278 = .ok (.iload 6, 2) := by decide +kernel
theorem dX12_clashes_280 : decode mX12_clashes.cd 280 = .ok (.aload_n 0, 1) := by decide +kernel
theorem dX12_clashes_281 : decode mX12_clashes.cd 281 = .ok (.getfield 267, 3) := by decide +kernel
theorem dX12_clashes_284 : decode mX12_clashes.cd 284 = .ok (.if_icmp .ge 54, 3) := by decide +kernel
theorem dX12_clashes_287 : decode mX12_clashes.cd 287 = .ok (.iload 5, 2) := by decide +kernel
theorem dX12_clashes_289 : decode mX12_clashes.cd 289 = .ok (.ifCond .ne 36, 3) := by decide +kernel
theorem dX12_clashes_292 : decode mX12_clashes.cd 292 = .ok (.iload 4, 2) := by decide +kernel
theorem dX12_clashes_294 : decode mX12_clashes.cd 294 = .ok (.iload 6, 2) := by decide +kernel
theorem dX12_clashes_296 : decode mX12_clashes.cd 296 = .ok (.ishr, 1) := by decide +kernel
theorem dX12_clashes_297 : decode mX12_clashes.cd 297 = .ok (.iconst 1, 1) := by decide +kernel
theorem dX12_clashes_298 : decode mX12_clashes.cd 298 = .ok (.iand, 1) := by decide +kernel
theorem dX12_clashes_299 : decode mX12_clashes.cd 299 = .ok (.iconst 1, 1) := by decide +kernel
theorem dX12_clashes_300 : decode mX12_clashes.cd 300 = .ok (.if_icmp .ne 29, 3) := by decide +kernel
theorem dX12_clashes_303 : decode mX12_clashes.cd 303 = .ok (.iload 4, 2) := by decide +kernel
theorem dX12_clashes_305 : decode mX12_clashes.cd 305 = .ok (.aload_n 0, 1) := by decide +kernel
theorem dX12_clashes_306 : decode mX12_clashes.cd 306 = .ok (.getfield 32, 3) := by decide +kernel
theorem dX12_clashes_309 : decode mX12_clashes.cd 309 = .ok (.iload 6, 2) := by decide +kernel
theorem dX12_clashes_311 : decode mX12_clashes.cd 311 = .ok (.iaload, 1) := by decide +kernel
theorem dX12_clashes_312 : decode mX12_clashes.cd 312 = .ok (.iconst (-1), 1) := by decide +kernel
theorem dX12_clashes_313 : decode mX12_clashes.cd 313 = .ok (.ixor, 1) := by decide +kernel
theorem dX12_clashes_314 : decode mX12_clashes.cd 314 = .ok (.iand, 1) := by decide +kernel
theorem dX12_clashes_315 : decode mX12_clashes.cd 315 = .ok (.iconst 1, 1) := by decide +kernel
theorem dX12_clashes_316 : decode mX12_clashes.cd 316 = .ok (.iload 6, 2) := by decide +kernel
theorem dX12_clashes_318 : decode mX12_clashes.cd 318 = .ok (.ishl, 1) := by decide +kernel
theorem dX12_clashes_319 : decode mX12_clashes.cd 319 = .ok (.iconst (-1), 1) := by decide +kernel
theorem dX12_clashes_320 : decode mX12_clashes.cd 320 = .ok (.ixor, 1) := by decide +kernel
theorem dX12_clashes_321 : decode mX12_clashes.cd 321 = .ok (.iand, 1) := by decide +kernel
theorem dX12_clashes_322 : decode mX12_clashes.cd 322 = .ok (.ifCond .eq 7, 3) := by decide +kernel
theorem dX12_clashes_325 : decode mX12_clashes.cd 325 = .ok (.iconst 1, 1) := by decide +kernel
theorem dX12_clashes_326 : decode mX12_clashes.cd 326 = .ok (.goto 4, 3) := by decide +kernel
theorem dX12_clashes_329 : decode mX12_clashes.cd 329 = .ok (.iconst 0, 1) := by decide +kernel
theorem dX12_clashes_330 : decode mX12_clashes.cd 330 = .ok (.istore 5, 2) := by decide +kernel
theorem dX12_clashes_332 : decode mX12_clashes.cd 332 = .ok (.iinc 6 1, 3) := by decide +kernel
theorem dX12_clashes_335 : decode mX12_clashes.cd 335 = .ok (.goto (-57), 3) := by decide +kernel
theorem dX12_clashes_338 : decode mX12_clashes.cd 338 = .ok (.iload_n 2, 1) := by decide +kernel
theorem dX12_clashes_339 : decode mX12_clashes.cd 339 = .ok (.iload 5, 2) := by decide +kernel
theorem dX12_clashes_341 : decode mX12_clashes.cd 341 = .ok (.ifCond .eq 7, 3) := by decide +kernel
theorem dX12_clashes_344 : decode mX12_clashes.cd 344 = .ok (.iconst 1, 1) := by decide +kernel
theorem dX12_clashes_345 : decode mX12_clashes.cd 345 = .ok (.goto 4, 3) := by decide +kernel
theorem dX12_clashes_348 : decode mX12_clashes.cd 348 = .ok (.iconst 0, 1) := by decide +kernel
theorem dX12_clashes_349 : decode mX12_clashes.cd 349 = .ok (.iadd, 1) := by decide +kernel
theorem dX12_clashes_350 : decode mX12_clashes.cd 350 = .ok (.istore_n 2, 1) := by decide +kernel
theorem dX12_clashes_351 : decode mX12_clashes.cd 351 = .ok (.iinc 3 1, 3) := by decide +kernel
theorem dX12_clashes_354 : decode mX12_clashes.cd 354 = .ok (.goto (-140), 3) := by decide +kernel
theorem dX12_clashes_357 : decode mX12_clashes.cd 357 = .ok (.iload_n 2, 1) := by decide +kernel
theorem dX12_clashes_358 : decode mX12_clashes.cd 358 = .ok (.ireturn, 1) := by decide +kernel
theorem bX12_clashes_0 {fr M1 M2 b1 b2 : Nat} {Q : RS → Nat → AH → Prop} {h : AH} {l1 : Int} {x2 x3 x4 x5 x6 : AV} {R : AH → Prop}   (hS : Sp mX12_opens true (fr - 1) 0 0 [zR 98, zI l1, zI 0, zI 12] 137 h (rV R)) (hf : 1 ≤ fr := by omega) (kk : ∀ h' : AH, R h' → Wp mX12_clashes (kR fr M1 M2) Q (b1, b2) 8 [zR 98, zI l1, none, none, none, none, none] [] 137 h') : Wp mX12_clashes (kR fr M1 M2) Q (b1, b2) 0 [zR 98, zI l1, x2, x3, x4, x5, x6] [] 137 h := by
  refine s_fgt (fgt_c (fgt_c (fgt_n _ (fgt_n _ (fgt_n _ (fgt_n _ (fgt_n _ fgt_0))))))) ?_
  refine s_aload_n (x := 98) dX12_clashes_0 rfl ?_
  refine s_iload_n (x := l1) dX12_clashes_1 rfl ?_
  refine s_iconst dX12_clashes_2 ?_
  refine s_bipush dX12_clashes_3 (by decide) ?_
  exact s_callV (as := [zI l1, zI 0, zI 12]) (st := []) (o := 98) dX12_clashes_5 kX12_328 rfl ⟨12, 87, TX12, e98, rfl, by decide⟩ rfl rfl (Nat.le_of_ble_eq_true rfl) hS (show fr - 1 + 1 ≤ fr by omega) (Nat.zero_le _) (Nat.zero_le _) (fun v n' h' hP _ => by obtain ⟨e, rfl, hR⟩ := hP; cases e; exact kk h' hR) (fun E n' h' _ z => (rV_nt _ _ _ z).elim)
theorem bX12_clashes_8 {fr M1 M2 b1 b2 : Nat} {Q : RS → Nat → AH → Prop} {h : AH} {l1 : Int} {x2 x3 x4 x5 x6 : AV}   (kk : Wp mX12_clashes (kR fr M1 M2) Q (b1, b2) 10 [zR 98, zI l1, zI 0, none, none, none, none] [] 137 h) : Wp mX12_clashes (kR fr M1 M2) Q (b1, b2) 8 [zR 98, zI l1, x2, x3, x4, x5, x6] [] 137 h := by
  refine s_fgt (fgt_c (fgt_c (fgt_n _ (fgt_n _ (fgt_n _ (fgt_n _ (fgt_n _ fgt_0))))))) ?_
  refine s_iconst dX12_clashes_8 ?_
  refine s_istore_n dX12_clashes_9 rfl (by decide) ?_
  exact kk
theorem bX12_clashes_10 {fr M1 M2 b1 b2 : Nat} {Q : RS → Nat → AH → Prop} {h : AH} {l1 l2 : Int} {x3 x4 x5 x6 : AV}  (r1 : -2147483648 ≤ l2 ∧ l2 < 2147483648 := by omega) (r2 : -2147483648 ≤ h 98 66 ∧ h 98 66 < 2147483648 := by omega) (kt : h 98 66 ≤ l2 → Wp mX12_clashes (kR fr M1 M2) Q (b1, b2) 210 [zR 98, zI l1, zI l2, none, none, none, none] [] 137 h) (kf : l2 < h 98 66 → Wp mX12_clashes (kR fr M1 M2) Q (b1, b2) 18 [zR 98, zI l1, zI l2, none, none, none, none] [] 137 h) : Wp mX12_clashes (kR fr M1 M2) Q (b1, b2) 10 [zR 98, zI l1, zI l2, x3, x4, x5, x6] [] 137 h := by
  refine s_fgt (fgt_c (fgt_c (fgt_c (fgt_n _ (fgt_n _ (fgt_n _ (fgt_n _ fgt_0))))))) ?_
  refine s_iload_n (x := l2) dX12_clashes_10 rfl ?_
  refine s_aload_n (x := 98) dX12_clashes_11 rfl ?_
  refine s_get (c := 98) dX12_clashes_12 lX12_295 e98 (by decide) ?_
  exact s_icmp_ge (tgt := 210) dX12_clashes_15 (by decide) r1 r2 kt kf
theorem bX12_clashes_18 {fr M1 M2 b1 b2 : Nat} {Q : RS → Nat → AH → Prop} {h : AH} {l1 l2 : Int} {x3 x4 x5 x6 : AV}  (r1 : 0 ≤ l2 ∧ l2 < 16 := by omega) (r2 : -2147483648 ≤ h 123 l2 ∧ h 123 l2 < 2147483648 := by omega) (kt : ¬ h 123 l2 = (-1) → Wp mX12_clashes (kR fr M1 M2) Q (b1, b2) 33 [zR 98, zI l1, zI l2, zI (h 123 l2), none, none, none] [] 137 h) (kf : h 123 l2 = (-1) → Wp mX12_clashes (kR fr M1 M2) Q (b1, b2) 30 [zR 98, zI l1, zI l2, zI (h 123 l2), none, none, none] [] 137 h) : Wp mX12_clashes (kR fr M1 M2) Q (b1, b2) 18 [zR 98, zI l1, zI l2, x3, x4, x5, x6] [] 137 h := by
  refine s_fgt (fgt_c (fgt_c (fgt_c (fgt_n _ (fgt_n _ (fgt_n _ (fgt_n _ fgt_0))))))) ?_
  refine s_aload_n (x := 98) dX12_clashes_18 rfl ?_
  refine s_getFd (c := 98) (d := 123) dX12_clashes_19 lX12_92 e98 (Or.inl rfl) (by decide) (by decide) ?_
  refine s_iload_n (x := l2) dX12_clashes_22 rfl ?_
  refine s_iald (c := 123) (i := l2) dX12_clashes_23 e123 r1.1 r1.2 ?_
  refine s_istore_n dX12_clashes_24 rfl (by decide) ?_
  refine s_iload_n (x := h 123 l2) dX12_clashes_25 rfl ?_
  refine s_iconst dX12_clashes_26 ?_
  exact s_icmp_ne (tgt := 33) dX12_clashes_27 (by decide) r2 ⟨by decide, by decide⟩ kt kf
theorem bX12_clashes_30 {fr M1 M2 b1 b2 : Nat} {Q : RS → Nat → AH → Prop} {h : AH} {l1 l2 : Int} {x3 x4 x5 x6 : AV}   (kk : Wp mX12_clashes (kR fr M1 M2) Q (b1, b2) 204 [zR 98, zI l1, zI l2, none, none, none, none] [] 137 h) : Wp mX12_clashes (kR fr M1 M2) Q (b1, b2) 30 [zR 98, zI l1, zI l2, x3, x4, x5, x6] [] 137 h := by
  refine s_fgt (fgt_c (fgt_c (fgt_c (fgt_n _ (fgt_n _ (fgt_n _ (fgt_n _ fgt_0))))))) ?_
  exact s_goto (tgt := 204) dX12_clashes_30 (by decide) kk
theorem bX12_clashes_33 {fr M1 M2 b1 b2 : Nat} {Q : RS → Nat → AH → Prop} {h : AH} {l1 l2 l3 : Int} {x4 x5 x6 : AV}  (r1 : 0 ≤ (8 * l2) + l3 ∧ (8 * l2) + l3 < 3200 := by omega) (r2 : 0 ≤ 2 * l3 ∧ 2 * l3 < 16 := by omega) (kk : Wp mX12_clashes (kR fr M1 M2) Q (b1, b2) 58 [zR 98, zI l1, zI l2, zI l3, zI 0, none, none] [] 137 (up h 115 ((8 * l2) + l3) ((h 115 ((8 * l2) + l3)) + (h 99 (2 * l3))))) : Wp mX12_clashes (kR fr M1 M2) Q (b1, b2) 33 [zR 98, zI l1, zI l2, zI l3, x4, x5, x6] [] 137 h := by
  refine s_fgt (fgt_c (fgt_c (fgt_c (fgt_c (fgt_n _ (fgt_n _ (fgt_n _ fgt_0))))))) ?_
  refine s_aload_n (x := 98) dX12_clashes_33 rfl ?_
  refine s_getFd (c := 98) (d := 115) dX12_clashes_34 lX12_65 e98 (Or.inl rfl) (by decide) (by decide) ?_
  refine s_bipush dX12_clashes_37 (by decide) ?_
  refine s_iload_n (x := l2) dX12_clashes_39 rfl ?_
  refine s_imul dX12_clashes_40 ?_
  refine s_iload_n (x := l3) dX12_clashes_41 rfl ?_
  refine s_iadd dX12_clashes_42 ?_
  refine s_dup2 dX12_clashes_43 rfl rfl ?_
  refine s_iald (c := 115) (i := (8 * l2) + l3) dX12_clashes_44 e115 r1.1 r1.2 ?_
  refine s_aload_n (x := 98) dX12_clashes_45 rfl ?_
  refine s_getFd (c := 98) (d := 99) dX12_clashes_46 lX12_13 e98 (Or.inl rfl) (by decide) (by decide) ?_
  refine s_iconst dX12_clashes_49 ?_
  refine s_iload_n (x := l3) dX12_clashes_50 rfl ?_
  refine s_imul dX12_clashes_51 ?_
  refine s_iald (c := 99) (i := 2 * l3) dX12_clashes_52 e99 r2.1 r2.2 ?_
  refine s_iadd dX12_clashes_53 ?_
  refine s_iast (c := 115) (i := (8 * l2) + l3) dX12_clashes_54 e115 r1.1 r1.2 ?_
  refine s_iconst dX12_clashes_55 ?_
  refine s_istore dX12_clashes_56 rfl (by decide) ?_
  exact kk
theorem bX12_clashes_58 {fr M1 M2 b1 b2 : Nat} {Q : RS → Nat → AH → Prop} {h : AH} {l1 l2 l3 l4 : Int} {x5 x6 : AV}  (r1 : -2147483648 ≤ l4 ∧ l4 < 2147483648 := by omega) (r2 : -2147483648 ≤ h 98 2 ∧ h 98 2 < 2147483648 := by omega) (kt : h 98 2 ≤ l4 → Wp mX12_clashes (kR fr M1 M2) Q (b1, b2) 204 [zR 98, zI l1, zI l2, zI l3, zI l4, none, none] [] 137 h) (kf : l4 < h 98 2 → Wp mX12_clashes (kR fr M1 M2) Q (b1, b2) 67 [zR 98, zI l1, zI l2, zI l3, zI l4, none, none] [] 137 h) : Wp mX12_clashes (kR fr M1 M2) Q (b1, b2) 58 [zR 98, zI l1, zI l2, zI l3, zI l4, x5, x6] [] 137 h := by
  refine s_fgt (fgt_c (fgt_c (fgt_c (fgt_c (fgt_c (fgt_n _ (fgt_n _ fgt_0))))))) ?_
  refine s_iload (x := l4) dX12_clashes_58 rfl ?_
  refine s_aload_n (x := 98) dX12_clashes_60 rfl ?_
  refine s_get (c := 98) dX12_clashes_61 lX12_270 e98 (by decide) ?_
  exact s_icmp_ge (tgt := 204) dX12_clashes_64 (by decide) r1 r2 kt kf
theorem bX12_clashes_67 {fr M1 M2 b1 b2 : Nat} {Q : RS → Nat → AH → Prop} {h : AH} {l1 l2 l3 l4 : Int} {x5 x6 : AV}  (r1 : 0 ≤ (6 * l4) + 4 ∧ (6 * l4) + 4 < 36 := by omega) (r2 : 0 ≤ (2 * l3) + 1 ∧ (2 * l3) + 1 < 16 := by omega) (r3 : 0 ≤ h 99 ((2 * l3) + 1) ∧ h 99 ((2 * l3) + 1) < 32 := by omega) (r4 : -2147483648 ≤ h 100 ((6 * l4) + 4) ∧ h 100 ((6 * l4) + 4) < 2147483648 := by omega) (r5 : -2147483648 ≤ bAnd ((h 100 ((6 * l4) + 4)) / 2 ^ (h 99 ((2 * l3) + 1)).toNat) 1 ∧ bAnd ((h 100 ((6 * l4) + 4)) / 2 ^ (h 99 ((2 * l3) + 1)).toNat) 1 < 2147483648 := by omega) (kt : ¬ bAnd ((h 100 ((6 * l4) + 4)) / 2 ^ (h 99 ((2 * l3) + 1)).toNat) 1 = 1 → Wp mX12_clashes (kR fr M1 M2) Q (b1, b2) 99 [zR 98, zI l1, zI l2, zI l3, zI l4, none, none] [] 137 h) (kf : bAnd ((h 100 ((6 * l4) + 4)) / 2 ^ (h 99 ((2 * l3) + 1)).toNat) 1 = 1 → Wp mX12_clashes (kR fr M1 M2) Q (b1, b2) 96 [zR 98, zI l1, zI l2, zI l3, zI l4, none, none] [] 137 h) : Wp mX12_clashes (kR fr M1 M2) Q (b1, b2) 67 [zR 98, zI l1, zI l2, zI l3, zI l4, x5, x6] [] 137 h := by
  refine s_fgt (fgt_c (fgt_c (fgt_c (fgt_c (fgt_c (fgt_n _ (fgt_n _ fgt_0))))))) ?_
  refine s_aload_n (x := 98) dX12_clashes_67 rfl ?_
  refine s_getFd (c := 98) (d := 100) dX12_clashes_68 lX12_17 e98 (Or.inl rfl) (by decide) (by decide) ?_
  refine s_bipush dX12_clashes_71 (by decide) ?_
  refine s_iload (x := l4) dX12_clashes_73 rfl ?_
  refine s_imul dX12_clashes_75 ?_
  refine s_iconst dX12_clashes_76 ?_
  refine s_iadd dX12_clashes_77 ?_
  refine s_iald (c := 100) (i := (6 * l4) + 4) dX12_clashes_78 e100 r1.1 r1.2 ?_
  refine s_aload_n (x := 98) dX12_clashes_79 rfl ?_
  refine s_getFd (c := 98) (d := 99) dX12_clashes_80 lX12_13 e98 (Or.inl rfl) (by decide) (by decide) ?_
  refine s_iconst dX12_clashes_83 ?_
  refine s_iload_n (x := l3) dX12_clashes_84 rfl ?_
  refine s_imul dX12_clashes_85 ?_
  refine s_iconst dX12_clashes_86 ?_
  refine s_iadd dX12_clashes_87 ?_
  refine s_iald (c := 99) (i := (2 * l3) + 1) dX12_clashes_88 e99 r2.1 r2.2 ?_
  refine s_ishrN dX12_clashes_89 r4 r3.1 r3.2 ?_
  refine s_iconst dX12_clashes_90 ?_
  refine s_iand dX12_clashes_91 ?_
  refine s_iconst dX12_clashes_92 ?_
  exact s_icmp_ne (tgt := 99) dX12_clashes_93 (by decide) r5 ⟨by decide, by decide⟩ kt kf
theorem bX12_clashes_96 {fr M1 M2 b1 b2 : Nat} {Q : RS → Nat → AH → Prop} {h : AH} {l1 l2 l3 l4 : Int} {x5 x6 : AV}   (kk : Wp mX12_clashes (kR fr M1 M2) Q (b1, b2) 198 [zR 98, zI l1, zI l2, zI l3, zI l4, none, none] [] 137 h) : Wp mX12_clashes (kR fr M1 M2) Q (b1, b2) 96 [zR 98, zI l1, zI l2, zI l3, zI l4, x5, x6] [] 137 h := by
  refine s_fgt (fgt_c (fgt_c (fgt_c (fgt_c (fgt_c (fgt_n _ (fgt_n _ fgt_0))))))) ?_
  exact s_goto (tgt := 198) dX12_clashes_96 (by decide) kk
theorem bX12_clashes_99 {fr M1 M2 b1 b2 : Nat} {Q : RS → Nat → AH → Prop} {h : AH} {l1 l2 l3 l4 : Int} {x5 x6 : AV}  (r1 : 0 ≤ 2 * l3 ∧ 2 * l3 < 16 := by omega) (kk : Wp mX12_clashes (kR fr M1 M2) Q (b1, b2) 112 [zR 98, zI l1, zI l2, zI l3, zI l4, zI (h 99 (2 * l3)), zI 1] [] 137 h) : Wp mX12_clashes (kR fr M1 M2) Q (b1, b2) 99 [zR 98, zI l1, zI l2, zI l3, zI l4, x5, x6] [] 137 h := by
  refine s_fgt (fgt_c (fgt_c (fgt_c (fgt_c (fgt_c (fgt_n _ (fgt_n _ fgt_0))))))) ?_
  refine s_aload_n (x := 98) dX12_clashes_99 rfl ?_
  refine s_getFd (c := 98) (d := 99) dX12_clashes_100 lX12_13 e98 (Or.inl rfl) (by decide) (by decide) ?_
  refine s_iconst dX12_clashes_103 ?_
  refine s_iload_n (x := l3) dX12_clashes_104 rfl ?_
  refine s_imul dX12_clashes_105 ?_
  refine s_iald (c := 99) (i := 2 * l3) dX12_clashes_106 e99 r1.1 r1.2 ?_
  refine s_istore dX12_clashes_107 rfl (by decide) ?_
  refine s_iconst dX12_clashes_109 ?_
  refine s_istore dX12_clashes_110 rfl (by decide) ?_
  exact kk
theorem bX12_clashes_112 {fr M1 M2 b1 b2 : Nat} {Q : RS → Nat → AH → Prop} {h : AH} {l1 l2 l3 l4 l5 l6 : Int}  (r1 : 0 ≤ (6 * l4) + 5 ∧ (6 * l4) + 5 < 36 := by omega) (r2 : -2147483648 ≤ l6 ∧ l6 < 2147483648 := by omega) (r3 : -2147483648 ≤ h 100 ((6 * l4) + 5) ∧ h 100 ((6 * l4) + 5) < 2147483648 := by omega) (kt : h 100 ((6 * l4) + 5) < l6 → Wp mX12_clashes (kR fr M1 M2) Q (b1, b2) 198 [zR 98, zI l1, zI l2, zI l3, zI l4, zI l5, zI l6] [] 137 h) (kf : l6 ≤ h 100 ((6 * l4) + 5) → Wp mX12_clashes (kR fr M1 M2) Q (b1, b2) 129 [zR 98, zI l1, zI l2, zI l3, zI l4, zI l5, zI l6] [] 137 h) : Wp mX12_clashes (kR fr M1 M2) Q (b1, b2) 112 [zR 98, zI l1, zI l2, zI l3, zI l4, zI l5, zI l6] [] 137 h := by
  refine s_iload (x := l6) dX12_clashes_112 rfl ?_
  refine s_aload_n (x := 98) dX12_clashes_114 rfl ?_
  refine s_getFd (c := 98) (d := 100) dX12_clashes_115 lX12_17 e98 (Or.inl rfl) (by decide) (by decide) ?_
  refine s_bipush dX12_clashes_118 (by decide) ?_
  refine s_iload (x := l4) dX12_clashes_120 rfl ?_
  refine s_imul dX12_clashes_122 ?_
  refine s_iconst dX12_clashes_123 ?_
  refine s_iadd dX12_clashes_124 ?_
  refine s_iald (c := 100) (i := (6 * l4) + 5) dX12_clashes_125 e100 r1.1 r1.2 ?_
  exact s_icmp_gt (tgt := 198) dX12_clashes_126 (by decide) r2 r3 kt kf
theorem bX12_clashes_129 {fr M1 M2 b1 b2 : Nat} {Q : RS → Nat → AH → Prop} {h : AH} {l1 l2 l3 l4 l5 l6 : Int}  (r1 : 0 ≤ (6 * l4) + 3 ∧ (6 * l4) + 3 < 36 := by omega) (r2 : 0 ≤ l5 * (h 100 ((6 * l4) + 3)) ∧ l5 * (h 100 ((6 * l4) + 3)) < 2147483648 := by omega) (r3 : 0 ≤ 6 * l4 ∧ 6 * l4 < 36 := by omega) (r4 : 0 ≤ l2 + (l6 * (h 100 (6 * l4))) ∧ l2 + (l6 * (h 100 (6 * l4))) < 2147483648 := by omega) (r5 : 0 < l1 ∧ l1 < 2147483648 := by omega) (r6 : 0 ≤ (8 * ((l2 + (l6 * (h 100 (6 * l4)))) % l1)) + l3 ∧ (8 * ((l2 + (l6 * (h 100 (6 * l4)))) % l1)) + l3 < 3200 := by omega) (r7 : 0 ≤ ((l5 * (h 100 ((6 * l4) + 3))) / 100) * (h 104 12) ∧ ((l5 * (h 100 ((6 * l4) + 3))) / 100) * (h 104 12) < 2147483648 := by omega) (kk : Wp mX12_clashes (kR fr M1 M2) Q (b1, b2) 112 [zR 98, zI l1, zI l2, zI l3, zI l4, zI ((l5 * (h 100 ((6 * l4) + 3))) / 100), zI (l6 + 1)] [] 137 (up h 115 ((8 * ((l2 + (l6 * (h 100 (6 * l4)))) % l1)) + l3) ((h 115 ((8 * ((l2 + (l6 * (h 100 (6 * l4)))) % l1)) + l3)) + ((((l5 * (h 100 ((6 * l4) + 3))) / 100) * (h 104 12)) / 100)))) : Wp mX12_clashes (kR fr M1 M2) Q (b1, b2) 129 [zR 98, zI l1, zI l2, zI l3, zI l4, zI l5, zI l6] [] 137 h := by
  refine s_iload (x := l5) dX12_clashes_129 rfl ?_
  refine s_aload_n (x := 98) dX12_clashes_131 rfl ?_
  refine s_getFd (c := 98) (d := 100) dX12_clashes_132 lX12_17 e98 (Or.inl rfl) (by decide) (by decide) ?_
  refine s_bipush dX12_clashes_135 (by decide) ?_
  refine s_iload (x := l4) dX12_clashes_137 rfl ?_
  refine s_imul dX12_clashes_139 ?_
  refine s_iconst dX12_clashes_140 ?_
  refine s_iadd dX12_clashes_141 ?_
  refine s_iald (c := 100) (i := (6 * l4) + 3) dX12_clashes_142 e100 r1.1 r1.2 ?_
  refine s_imul dX12_clashes_143 ?_
  refine s_bipush dX12_clashes_144 (by decide) ?_
  refine s_idivN dX12_clashes_146 r2.1 r2.2 (by decide) (by decide) ?_
  refine s_istore dX12_clashes_147 rfl (by decide) ?_
  refine s_aload_n (x := 98) dX12_clashes_149 rfl ?_
  refine s_getFd (c := 98) (d := 115) dX12_clashes_150 lX12_65 e98 (Or.inl rfl) (by decide) (by decide) ?_
  refine s_bipush dX12_clashes_153 (by decide) ?_
  refine s_iload_n (x := l2) dX12_clashes_155 rfl ?_
  refine s_iload (x := l6) dX12_clashes_156 rfl ?_
  refine s_aload_n (x := 98) dX12_clashes_158 rfl ?_
  refine s_getFd (c := 98) (d := 100) dX12_clashes_159 lX12_17 e98 (Or.inl rfl) (by decide) (by decide) ?_
  refine s_bipush dX12_clashes_162 (by decide) ?_
  refine s_iload (x := l4) dX12_clashes_164 rfl ?_
  refine s_imul dX12_clashes_166 ?_
  refine s_iald (c := 100) (i := 6 * l4) dX12_clashes_167 e100 r3.1 r3.2 ?_
  refine s_imul dX12_clashes_168 ?_
  refine s_iadd dX12_clashes_169 ?_
  refine s_iload_n (x := l1) dX12_clashes_170 rfl ?_
  refine s_iremN dX12_clashes_171 r4.1 r4.2 r5.1 r5.2 ?_
  refine s_imul dX12_clashes_172 ?_
  refine s_iload_n (x := l3) dX12_clashes_173 rfl ?_
  refine s_iadd dX12_clashes_174 ?_
  refine s_dup2 dX12_clashes_175 rfl rfl ?_
  refine s_iald (c := 115) (i := (8 * ((l2 + (l6 * (h 100 (6 * l4)))) % l1)) + l3) dX12_clashes_176 e115 r6.1 r6.2 ?_
  refine s_iload (x := (l5 * (h 100 ((6 * l4) + 3))) / 100) dX12_clashes_177 rfl ?_
  refine s_aload_n (x := 98) dX12_clashes_179 rfl ?_
  refine s_getFd (c := 98) (d := 104) dX12_clashes_180 lX12_29 e98 (Or.inl rfl) (by decide) (by decide) ?_
  refine s_bipush dX12_clashes_183 (by decide) ?_
  refine s_iald (c := 104) (i := 12) dX12_clashes_185 e104 (by decide) (by decide) ?_
  refine s_imul dX12_clashes_186 ?_
  refine s_bipush dX12_clashes_187 (by decide) ?_
  refine s_idivN dX12_clashes_189 r7.1 r7.2 (by decide) (by decide) ?_
  refine s_iadd dX12_clashes_190 ?_
  refine s_iast (c := 115) (i := (8 * ((l2 + (l6 * (h 100 (6 * l4)))) % l1)) + l3) dX12_clashes_191 e115 r6.1 r6.2 ?_
  refine s_iinc (x := l6) dX12_clashes_192 rfl rfl (by decide) ?_
  exact s_goto (tgt := 112) dX12_clashes_195 (by decide) kk
theorem bX12_clashes_198 {fr M1 M2 b1 b2 : Nat} {Q : RS → Nat → AH → Prop} {h : AH} {l1 l2 l3 l4 : Int} {x5 x6 : AV}   (kk : Wp mX12_clashes (kR fr M1 M2) Q (b1, b2) 58 [zR 98, zI l1, zI l2, zI l3, zI (l4 + 1), none, none] [] 137 h) : Wp mX12_clashes (kR fr M1 M2) Q (b1, b2) 198 [zR 98, zI l1, zI l2, zI l3, zI l4, x5, x6] [] 137 h := by
  refine s_fgt (fgt_c (fgt_c (fgt_c (fgt_c (fgt_c (fgt_n _ (fgt_n _ fgt_0))))))) ?_
  refine s_iinc (x := l4) dX12_clashes_198 rfl rfl (by decide) ?_
  exact s_goto (tgt := 58) dX12_clashes_201 (by decide) kk
theorem bX12_clashes_204 {fr M1 M2 b1 b2 : Nat} {Q : RS → Nat → AH → Prop} {h : AH} {l1 l2 : Int} {x3 x4 x5 x6 : AV}   (kk : Wp mX12_clashes (kR fr M1 M2) Q (b1, b2) 10 [zR 98, zI l1, zI (l2 + 1), none, none, none, none] [] 137 h) : Wp mX12_clashes (kR fr M1 M2) Q (b1, b2) 204 [zR 98, zI l1, zI l2, x3, x4, x5, x6] [] 137 h := by
  refine s_fgt (fgt_c (fgt_c (fgt_c (fgt_n _ (fgt_n _ (fgt_n _ (fgt_n _ fgt_0))))))) ?_
  refine s_iinc (x := l2) dX12_clashes_204 rfl rfl (by decide) ?_
  exact s_goto (tgt := 10) dX12_clashes_207 (by decide) kk
theorem bX12_clashes_210 {fr M1 M2 b1 b2 : Nat} {Q : RS → Nat → AH → Prop} {h : AH} {l1 : Int} {x2 x3 x4 x5 x6 : AV}   (kk : Wp mX12_clashes (kR fr M1 M2) Q (b1, b2) 214 [zR 98, zI l1, zI 0, zI 0, none, none, none] [] 137 h) : Wp mX12_clashes (kR fr M1 M2) Q (b1, b2) 210 [zR 98, zI l1, x2, x3, x4, x5, x6] [] 137 h := by
  refine s_fgt (fgt_c (fgt_c (fgt_n _ (fgt_n _ (fgt_n _ (fgt_n _ (fgt_n _ fgt_0))))))) ?_
  refine s_iconst dX12_clashes_210 ?_
  refine s_istore_n dX12_clashes_211 rfl (by decide) ?_
  refine s_iconst dX12_clashes_212 ?_
  refine s_istore_n dX12_clashes_213 rfl (by decide) ?_
  exact kk
theorem bX12_clashes_214 {fr M1 M2 b1 b2 : Nat} {Q : RS → Nat → AH → Prop} {h : AH} {l1 l2 l3 : Int} {x4 x5 x6 : AV}  (r1 : -2147483648 ≤ l3 ∧ l3 < 2147483648 := by omega) (r2 : -2147483648 ≤ l1 ∧ l1 < 2147483648 := by omega) (kt : l1 ≤ l3 → Wp mX12_clashes (kR fr M1 M2) Q (b1, b2) 357 [zR 98, zI l1, zI l2, zI l3, none, none, none] [] 137 h) (kf : l3 < l1 → Wp mX12_clashes (kR fr M1 M2) Q (b1, b2) 219 [zR 98, zI l1, zI l2, zI l3, none, none, none] [] 137 h) : Wp mX12_clashes (kR fr M1 M2) Q (b1, b2) 214 [zR 98, zI l1, zI l2, zI l3, x4, x5, x6] [] 137 h := by
  refine s_fgt (fgt_c (fgt_c (fgt_c (fgt_c (fgt_n _ (fgt_n _ (fgt_n _ fgt_0))))))) ?_
  refine s_iload_n (x := l3) dX12_clashes_214 rfl ?_
  refine s_iload_n (x := l1) dX12_clashes_215 rfl ?_
  exact s_icmp_ge (tgt := 357) dX12_clashes_216 (by decide) r1 r2 kt kf
theorem bX12_clashes_219 {fr M1 M2 b1 b2 : Nat} {Q : RS → Nat → AH → Prop} {h : AH} {l1 l2 l3 : Int} {x4 x5 x6 : AV}   (kk : Wp mX12_clashes (kR fr M1 M2) Q (b1, b2) 225 [zR 98, zI l1, zI l2, zI l3, zI 0, zI 0, none] [] 137 h) : Wp mX12_clashes (kR fr M1 M2) Q (b1, b2) 219 [zR 98, zI l1, zI l2, zI l3, x4, x5, x6] [] 137 h := by
  refine s_fgt (fgt_c (fgt_c (fgt_c (fgt_c (fgt_n _ (fgt_n _ (fgt_n _ fgt_0))))))) ?_
  refine s_iconst dX12_clashes_219 ?_
  refine s_istore dX12_clashes_220 rfl (by decide) ?_
  refine s_iconst dX12_clashes_222 ?_
  refine s_istore dX12_clashes_223 rfl (by decide) ?_
  exact kk
theorem bX12_clashes_225 {fr M1 M2 b1 b2 : Nat} {Q : RS → Nat → AH → Prop} {h : AH} {l1 l2 l3 l4 l5 : Int} {x6 : AV}  (r1 : -2147483648 ≤ l5 ∧ l5 < 2147483648 := by omega) (r2 : -2147483648 ≤ h 98 1 ∧ h 98 1 < 2147483648 := by omega) (kt : h 98 1 ≤ l5 → Wp mX12_clashes (kR fr M1 M2) Q (b1, b2) 272 [zR 98, zI l1, zI l2, zI l3, zI l4, zI l5, none] [] 137 h) (kf : l5 < h 98 1 → Wp mX12_clashes (kR fr M1 M2) Q (b1, b2) 234 [zR 98, zI l1, zI l2, zI l3, zI l4, zI l5, none] [] 137 h) : Wp mX12_clashes (kR fr M1 M2) Q (b1, b2) 225 [zR 98, zI l1, zI l2, zI l3, zI l4, zI l5, x6] [] 137 h := by
  refine s_fgt (fgt_c (fgt_c (fgt_c (fgt_c (fgt_c (fgt_c (fgt_n _ fgt_0))))))) ?_
  refine s_iload (x := l5) dX12_clashes_225 rfl ?_
  refine s_aload_n (x := 98) dX12_clashes_227 rfl ?_
  refine s_get (c := 98) dX12_clashes_228 lX12_267 e98 (by decide) ?_
  exact s_icmp_ge (tgt := 272) dX12_clashes_231 (by decide) r1 r2 kt kf
theorem bX12_clashes_234 {fr M1 M2 b1 b2 : Nat} {Q : RS → Nat → AH → Prop} {h : AH} {l1 l2 l3 l4 l5 : Int} {x6 : AV}  (r1 : 0 ≤ (8 * l3) + l5 ∧ (8 * l3) + l5 < 3200 := by omega) (r2 : -2147483648 ≤ h 115 ((8 * l3) + l5) ∧ h 115 ((8 * l3) + l5) < 2147483648 := by omega) (r3 : -2147483648 ≤ h 98 5 ∧ h 98 5 < 2147483648 := by omega) (kt : h 115 ((8 * l3) + l5) < h 98 5 → Wp mX12_clashes (kR fr M1 M2) Q (b1, b2) 262 [zR 98, zI l1, zI l2, zI l3, zI l4, zI l5, none] [zI l4] 137 h) (kf : h 98 5 ≤ h 115 ((8 * l3) + l5) → Wp mX12_clashes (kR fr M1 M2) Q (b1, b2) 255 [zR 98, zI l1, zI l2, zI l3, zI l4, zI l5, none] [zI l4] 137 h) : Wp mX12_clashes (kR fr M1 M2) Q (b1, b2) 234 [zR 98, zI l1, zI l2, zI l3, zI l4, zI l5, x6] [] 137 h := by
  refine s_fgt (fgt_c (fgt_c (fgt_c (fgt_c (fgt_c (fgt_c (fgt_n _ fgt_0))))))) ?_
  refine s_iload (x := l4) dX12_clashes_234 rfl ?_
  refine s_aload_n (x := 98) dX12_clashes_236 rfl ?_
  refine s_getFd (c := 98) (d := 115) dX12_clashes_237 lX12_65 e98 (Or.inl rfl) (by decide) (by decide) ?_
  refine s_bipush dX12_clashes_240 (by decide) ?_
  refine s_iload_n (x := l3) dX12_clashes_242 rfl ?_
  refine s_imul dX12_clashes_243 ?_
  refine s_iload (x := l5) dX12_clashes_244 rfl ?_
  refine s_iadd dX12_clashes_246 ?_
  refine s_iald (c := 115) (i := (8 * l3) + l5) dX12_clashes_247 e115 r1.1 r1.2 ?_
  refine s_aload_n (x := 98) dX12_clashes_248 rfl ?_
  refine s_get (c := 98) dX12_clashes_249 lX12_7 e98 (by decide) ?_
  exact s_icmp_lt (tgt := 262) dX12_clashes_252 (by decide) r2 r3 kt kf
theorem bX12_clashes_255 {fr M1 M2 b1 b2 : Nat} {Q : RS → Nat → AH → Prop} {h : AH} {l1 l2 l3 l5 s0 : Int} {x4 x6 : AV}  (r1 : 0 ≤ l5 ∧ l5 < 32 := by omega) (kk : Wp mX12_clashes (kR fr M1 M2) Q (b1, b2) 263 [zR 98, zI l1, zI l2, zI l3, none, zI l5, none] [zI (1 * 2 ^ l5.toNat), zI s0] 137 h) : Wp mX12_clashes (kR fr M1 M2) Q (b1, b2) 255 [zR 98, zI l1, zI l2, zI l3, x4, zI l5, x6] [zI s0] 137 h := by
  refine s_fgt (fgt_c (fgt_c (fgt_c (fgt_c (fgt_n _ (fgt_c (fgt_n _ fgt_0))))))) ?_
  refine s_iconst dX12_clashes_255 ?_
  refine s_iload (x := l5) dX12_clashes_256 rfl ?_
  refine s_ishlN dX12_clashes_258 r1.1 r1.2 ?_
  exact s_goto (tgt := 263) dX12_clashes_259 (by decide) kk
theorem bX12_clashes_262 {fr M1 M2 b1 b2 : Nat} {Q : RS → Nat → AH → Prop} {h : AH} {l1 l2 l3 l5 s0 : Int} {x4 x6 : AV}   (kk : Wp mX12_clashes (kR fr M1 M2) Q (b1, b2) 263 [zR 98, zI l1, zI l2, zI l3, none, zI l5, none] [zI 0, zI s0] 137 h) : Wp mX12_clashes (kR fr M1 M2) Q (b1, b2) 262 [zR 98, zI l1, zI l2, zI l3, x4, zI l5, x6] [zI s0] 137 h := by
  refine s_fgt (fgt_c (fgt_c (fgt_c (fgt_c (fgt_n _ (fgt_c (fgt_n _ fgt_0))))))) ?_
  refine s_iconst dX12_clashes_262 ?_
  exact kk
theorem bX12_clashes_263 {fr M1 M2 b1 b2 : Nat} {Q : RS → Nat → AH → Prop} {h : AH} {l1 l2 l3 l5 s1 s0 : Int} {x4 x6 : AV}   (kk : Wp mX12_clashes (kR fr M1 M2) Q (b1, b2) 225 [zR 98, zI l1, zI l2, zI l3, zI (bOr s1 s0), zI (l5 + 1), none] [] 137 h) : Wp mX12_clashes (kR fr M1 M2) Q (b1, b2) 263 [zR 98, zI l1, zI l2, zI l3, x4, zI l5, x6] [zI s0, zI s1] 137 h := by
  refine s_fgt (fgt_c (fgt_c (fgt_c (fgt_c (fgt_n _ (fgt_c (fgt_n _ fgt_0))))))) ?_
  refine s_ior dX12_clashes_263 ?_
  refine s_istore dX12_clashes_264 rfl (by decide) ?_
  refine s_iinc (x := l5) dX12_clashes_266 rfl rfl (by decide) ?_
  exact s_goto (tgt := 225) dX12_clashes_269 (by decide) kk
theorem bX12_clashes_272 {fr M1 M2 b1 b2 : Nat} {Q : RS → Nat → AH → Prop} {h : AH} {l1 l2 l3 l4 : Int} {x5 x6 : AV}   (kk : Wp mX12_clashes (kR fr M1 M2) Q (b1, b2) 278 [zR 98, zI l1, zI l2, zI l3, zI l4, zI 0, zI 0] [] 137 h) : Wp mX12_clashes (kR fr M1 M2) Q (b1, b2) 272 [zR 98, zI l1, zI l2, zI l3, zI l4, x5, x6] [] 137 h := by
  refine s_fgt (fgt_c (fgt_c (fgt_c (fgt_c (fgt_c (fgt_n _ (fgt_n _ fgt_0))))))) ?_
  refine s_iconst dX12_clashes_272 ?_
  refine s_istore dX12_clashes_273 rfl (by decide) ?_
  refine s_iconst dX12_clashes_275 ?_
  refine s_istore dX12_clashes_276 rfl (by decide) ?_
  exact kk
theorem bX12_clashes_278 {fr M1 M2 b1 b2 : Nat} {Q : RS → Nat → AH → Prop} {h : AH} {l1 l2 l3 l4 l5 l6 : Int}  (r1 : -2147483648 ≤ l6 ∧ l6 < 2147483648 := by omega) (r2 : -2147483648 ≤ h 98 1 ∧ h 98 1 < 2147483648 := by omega) (kt : h 98 1 ≤ l6 → Wp mX12_clashes (kR fr M1 M2) Q (b1, b2) 338 [zR 98, zI l1, zI l2, zI l3, zI l4, zI l5, zI l6] [] 137 h) (kf : l6 < h 98 1 → Wp mX12_clashes (kR fr M1 M2) Q (b1, b2) 287 [zR 98, zI l1, zI l2, zI l3, zI l4, zI l5, zI l6] [] 137 h) : Wp mX12_clashes (kR fr M1 M2) Q (b1, b2) 278 [zR 98, zI l1, zI l2, zI l3, zI l4, zI l5, zI l6] [] 137 h := by
  refine s_iload (x := l6) dX12_clashes_278 rfl ?_
  refine s_aload_n (x := 98) dX12_clashes_280 rfl ?_
  refine s_get (c := 98) dX12_clashes_281 lX12_267 e98 (by decide) ?_
  exact s_icmp_ge (tgt := 338) dX12_clashes_284 (by decide) r1 r2 kt kf
theorem bX12_clashes_287 {fr M1 M2 b1 b2 : Nat} {Q : RS → Nat → AH → Prop} {h : AH} {l1 l2 l3 l4 l5 l6 : Int}  (r1 : -2147483648 ≤ l5 ∧ l5 < 2147483648 := by omega) (kt : ¬ l5 = 0 → Wp mX12_clashes (kR fr M1 M2) Q (b1, b2) 325 [zR 98, zI l1, zI l2, zI l3, zI l4, zI l5, zI l6] [] 137 h) (kf : l5 = 0 → Wp mX12_clashes (kR fr M1 M2) Q (b1, b2) 292 [zR 98, zI l1, zI l2, zI l3, zI l4, zI l5, zI l6] [] 137 h) : Wp mX12_clashes (kR fr M1 M2) Q (b1, b2) 287 [zR 98, zI l1, zI l2, zI l3, zI l4, zI l5, zI l6] [] 137 h := by
  refine s_iload (x := l5) dX12_clashes_287 rfl ?_
  exact s_if_ne (tgt := 325) dX12_clashes_289 (by decide) r1 kt kf
theorem bX12_clashes_292 {fr M1 M2 b1 b2 : Nat} {Q : RS → Nat → AH → Prop} {h : AH} {l1 l2 l3 l4 l6 : Int} {x5 : AV}  (r1 : 0 ≤ l6 ∧ l6 < 32 := by omega) (r2 : -2147483648 ≤ l4 ∧ l4 < 2147483648 := by omega) (r3 : -2147483648 ≤ bAnd (l4 / 2 ^ l6.toNat) 1 ∧ bAnd (l4 / 2 ^ l6.toNat) 1 < 2147483648 := by omega) (kt : ¬ bAnd (l4 / 2 ^ l6.toNat) 1 = 1 → Wp mX12_clashes (kR fr M1 M2) Q (b1, b2) 329 [zR 98, zI l1, zI l2, zI l3, zI l4, none, zI l6] [] 137 h) (kf : bAnd (l4 / 2 ^ l6.toNat) 1 = 1 → Wp mX12_clashes (kR fr M1 M2) Q (b1, b2) 303 [zR 98, zI l1, zI l2, zI l3, zI l4, none, zI l6] [] 137 h) : Wp mX12_clashes (kR fr M1 M2) Q (b1, b2) 292 [zR 98, zI l1, zI l2, zI l3, zI l4, x5, zI l6] [] 137 h := by
  refine s_fgt (fgt_c (fgt_c (fgt_c (fgt_c (fgt_c (fgt_n _ (fgt_c fgt_0))))))) ?_
  refine s_iload (x := l4) dX12_clashes_292 rfl ?_
  refine s_iload (x := l6) dX12_clashes_294 rfl ?_
  refine s_ishrN dX12_clashes_296 r2 r1.1 r1.2 ?_
  refine s_iconst dX12_clashes_297 ?_
  refine s_iand dX12_clashes_298 ?_
  refine s_iconst dX12_clashes_299 ?_
  exact s_icmp_ne (tgt := 329) dX12_clashes_300 (by decide) r3 ⟨by decide, by decide⟩ kt kf
theorem bX12_clashes_303 {fr M1 M2 b1 b2 : Nat} {Q : RS → Nat → AH → Prop} {h : AH} {l1 l2 l3 l4 l6 : Int} {x5 : AV}  (r1 : 0 ≤ l6 ∧ l6 < 8 := by omega) (r2 : 0 ≤ l6 ∧ l6 < 32 := by omega) (r3 : -2147483648 ≤ bAnd (bAnd l4 (bXor (h 105 l6) (-1))) (bXor (1 * 2 ^ l6.toNat) (-1)) ∧ bAnd (bAnd l4 (bXor (h 105 l6) (-1))) (bXor (1 * 2 ^ l6.toNat) (-1)) < 2147483648 := by omega) (kt : bAnd (bAnd l4 (bXor (h 105 l6) (-1))) (bXor (1 * 2 ^ l6.toNat) (-1)) = 0 → Wp mX12_clashes (kR fr M1 M2) Q (b1, b2) 329 [zR 98, zI l1, zI l2, zI l3, zI l4, none, zI l6] [] 137 h) (kf : ¬ bAnd (bAnd l4 (bXor (h 105 l6) (-1))) (bXor (1 * 2 ^ l6.toNat) (-1)) = 0 → Wp mX12_clashes (kR fr M1 M2) Q (b1, b2) 325 [zR 98, zI l1, zI l2, zI l3, zI l4, none, zI l6] [] 137 h) : Wp mX12_clashes (kR fr M1 M2) Q (b1, b2) 303 [zR 98, zI l1, zI l2, zI l3, zI l4, x5, zI l6] [] 137 h := by
  refine s_fgt (fgt_c (fgt_c (fgt_c (fgt_c (fgt_c (fgt_n _ (fgt_c fgt_0))))))) ?_
  refine s_iload (x := l4) dX12_clashes_303 rfl ?_
  refine s_aload_n (x := 98) dX12_clashes_305 rfl ?_
  refine s_getFd (c := 98) (d := 105) dX12_clashes_306 lX12_32 e98 (Or.inl rfl) (by decide) (by decide) ?_
  refine s_iload (x := l6) dX12_clashes_309 rfl ?_
  refine s_iald (c := 105) (i := l6) dX12_clashes_311 e105 r1.1 r1.2 ?_
  refine s_iconst dX12_clashes_312 ?_
  refine s_ixor dX12_clashes_313 ?_
  refine s_iand dX12_clashes_314 ?_
  refine s_iconst dX12_clashes_315 ?_
  refine s_iload (x := l6) dX12_clashes_316 rfl ?_
  refine s_ishlN dX12_clashes_318 r2.1 r2.2 ?_
  refine s_iconst dX12_clashes_319 ?_
  refine s_ixor dX12_clashes_320 ?_
  refine s_iand dX12_clashes_321 ?_
  exact s_if_eq (tgt := 329) dX12_clashes_322 (by decide) r3 kt kf
theorem bX12_clashes_325 {fr M1 M2 b1 b2 : Nat} {Q : RS → Nat → AH → Prop} {h : AH} {l1 l2 l3 l4 l6 : Int} {x5 : AV}   (kk : Wp mX12_clashes (kR fr M1 M2) Q (b1, b2) 330 [zR 98, zI l1, zI l2, zI l3, zI l4, none, zI l6] [zI 1] 137 h) : Wp mX12_clashes (kR fr M1 M2) Q (b1, b2) 325 [zR 98, zI l1, zI l2, zI l3, zI l4, x5, zI l6] [] 137 h := by
  refine s_fgt (fgt_c (fgt_c (fgt_c (fgt_c (fgt_c (fgt_n _ (fgt_c fgt_0))))))) ?_
  refine s_iconst dX12_clashes_325 ?_
  exact s_goto (tgt := 330) dX12_clashes_326 (by decide) kk
theorem bX12_clashes_329 {fr M1 M2 b1 b2 : Nat} {Q : RS → Nat → AH → Prop} {h : AH} {l1 l2 l3 l4 l6 : Int} {x5 : AV}   (kk : Wp mX12_clashes (kR fr M1 M2) Q (b1, b2) 330 [zR 98, zI l1, zI l2, zI l3, zI l4, none, zI l6] [zI 0] 137 h) : Wp mX12_clashes (kR fr M1 M2) Q (b1, b2) 329 [zR 98, zI l1, zI l2, zI l3, zI l4, x5, zI l6] [] 137 h := by
  refine s_fgt (fgt_c (fgt_c (fgt_c (fgt_c (fgt_c (fgt_n _ (fgt_c fgt_0))))))) ?_
  refine s_iconst dX12_clashes_329 ?_
  exact kk
theorem bX12_clashes_330 {fr M1 M2 b1 b2 : Nat} {Q : RS → Nat → AH → Prop} {h : AH} {l1 l2 l3 l4 l6 s0 : Int} {x5 : AV}   (kk : Wp mX12_clashes (kR fr M1 M2) Q (b1, b2) 278 [zR 98, zI l1, zI l2, zI l3, zI l4, zI s0, zI (l6 + 1)] [] 137 h) : Wp mX12_clashes (kR fr M1 M2) Q (b1, b2) 330 [zR 98, zI l1, zI l2, zI l3, zI l4, x5, zI l6] [zI s0] 137 h := by
  refine s_fgt (fgt_c (fgt_c (fgt_c (fgt_c (fgt_c (fgt_n _ (fgt_c fgt_0))))))) ?_
  refine s_istore dX12_clashes_330 rfl (by decide) ?_
  refine s_iinc (x := l6) dX12_clashes_332 rfl rfl (by decide) ?_
  exact s_goto (tgt := 278) dX12_clashes_335 (by decide) kk
theorem bX12_clashes_338 {fr M1 M2 b1 b2 : Nat} {Q : RS → Nat → AH → Prop} {h : AH} {l1 l2 l3 l5 : Int} {x4 x6 : AV}  (r1 : -2147483648 ≤ l5 ∧ l5 < 2147483648 := by omega) (kt : l5 = 0 → Wp mX12_clashes (kR fr M1 M2) Q (b1, b2) 348 [zR 98, zI l1, zI l2, zI l3, none, zI l5, none] [zI l2] 137 h) (kf : ¬ l5 = 0 → Wp mX12_clashes (kR fr M1 M2) Q (b1, b2) 344 [zR 98, zI l1, zI l2, zI l3, none, zI l5, none] [zI l2] 137 h) : Wp mX12_clashes (kR fr M1 M2) Q (b1, b2) 338 [zR 98, zI l1, zI l2, zI l3, x4, zI l5, x6] [] 137 h := by
  refine s_fgt (fgt_c (fgt_c (fgt_c (fgt_c (fgt_n _ (fgt_c (fgt_n _ fgt_0))))))) ?_
  refine s_iload_n (x := l2) dX12_clashes_338 rfl ?_
  refine s_iload (x := l5) dX12_clashes_339 rfl ?_
  exact s_if_eq (tgt := 348) dX12_clashes_341 (by decide) r1 kt kf
theorem bX12_clashes_344 {fr M1 M2 b1 b2 : Nat} {Q : RS → Nat → AH → Prop} {h : AH} {l1 l3 s0 : Int} {x2 x4 x5 x6 : AV}   (kk : Wp mX12_clashes (kR fr M1 M2) Q (b1, b2) 349 [zR 98, zI l1, none, zI l3, none, none, none] [zI 1, zI s0] 137 h) : Wp mX12_clashes (kR fr M1 M2) Q (b1, b2) 344 [zR 98, zI l1, x2, zI l3, x4, x5, x6] [zI s0] 137 h := by
  refine s_fgt (fgt_c (fgt_c (fgt_n _ (fgt_c (fgt_n _ (fgt_n _ (fgt_n _ fgt_0))))))) ?_
  refine s_iconst dX12_clashes_344 ?_
  exact s_goto (tgt := 349) dX12_clashes_345 (by decide) kk
theorem bX12_clashes_348 {fr M1 M2 b1 b2 : Nat} {Q : RS → Nat → AH → Prop} {h : AH} {l1 l3 s0 : Int} {x2 x4 x5 x6 : AV}   (kk : Wp mX12_clashes (kR fr M1 M2) Q (b1, b2) 349 [zR 98, zI l1, none, zI l3, none, none, none] [zI 0, zI s0] 137 h) : Wp mX12_clashes (kR fr M1 M2) Q (b1, b2) 348 [zR 98, zI l1, x2, zI l3, x4, x5, x6] [zI s0] 137 h := by
  refine s_fgt (fgt_c (fgt_c (fgt_n _ (fgt_c (fgt_n _ (fgt_n _ (fgt_n _ fgt_0))))))) ?_
  refine s_iconst dX12_clashes_348 ?_
  exact kk
theorem bX12_clashes_349 {fr M1 M2 b1 b2 : Nat} {Q : RS → Nat → AH → Prop} {h : AH} {l1 l3 s1 s0 : Int} {x2 x4 x5 x6 : AV}   (kk : Wp mX12_clashes (kR fr M1 M2) Q (b1, b2) 214 [zR 98, zI l1, zI (s1 + s0), zI (l3 + 1), none, none, none] [] 137 h) : Wp mX12_clashes (kR fr M1 M2) Q (b1, b2) 349 [zR 98, zI l1, x2, zI l3, x4, x5, x6] [zI s0, zI s1] 137 h := by
  refine s_fgt (fgt_c (fgt_c (fgt_n _ (fgt_c (fgt_n _ (fgt_n _ (fgt_n _ fgt_0))))))) ?_
  refine s_iadd dX12_clashes_349 ?_
  refine s_istore_n dX12_clashes_350 rfl (by decide) ?_
  refine s_iinc (x := l3) dX12_clashes_351 rfl rfl (by decide) ?_
  exact s_goto (tgt := 214) dX12_clashes_354 (by decide) kk
theorem bX12_clashes_357 {fr M1 M2 b1 b2 : Nat} {Q : RS → Nat → AH → Prop} {h : AH} {l2 : Int} {x0 x1 x3 x4 x5 x6 : AV}   (hq : Q (.inl (some (zI l2))) 137 h) : Wp mX12_clashes (kR fr M1 M2) Q (b1, b2) 357 [x0, x1, zI l2, x3, x4, x5, x6] [] 137 h := by
  refine s_fgt (fgt_n _ (fgt_n _ (fgt_c (fgt_n _ (fgt_n _ (fgt_n _ (fgt_n _ fgt_0))))))) ?_
  refine s_iload_n (x := l2) dX12_clashes_357 rfl ?_
  exact s_ireturn dX12_clashes_358 ⟨.int, rfl, rfl⟩ hq (fun z => by cases z)
theorem dX12_round_0 : decode mX12_round.cd 0 = .ok (.aload_n 0, 1) := by decide +kernel
theorem dX12_round_1 : decode mX12_round.cd 1 = .ok (.iconst 0, 1) := by decide +kernel
theorem dX12_round_2 : decode mX12_round.cd 2 = .ok (.putfield 136, 3) := by decide +kernel
theorem dX12_round_5 : decode mX12_round.cd 5 = .ok (.aload_n 0, 1) := by decide +kernel
theorem dX12_round_6 : decode mX12_round.cd 6 = .ok (.iload_n 1, 1) := by decide +kernel
theorem dX12_round_7 : decode mX12_round.cd 7 = .ok (.iconst 0, 1) := by decide +kernel
theorem dX12_round_8 : decode mX12_round.cd 8 = .ok (.iconst 2, 1) := by decide +kernel
theorem dX12_round_9 : decode mX12_round.cd 9 = .ok (.invokestatic 301, 3) := by decide +kernel
theorem dX12_round_12 : decode mX12_round.cd 12 = .ok (.iconst 1, 1) := by decide +kernel
theorem dX12_round_13 : decode mX12_round.cd 13 = .ok (.invokevirtual 260, 3) := by decide +kernel
theorem dX12_round_16 : decode mX12_round.cd 16 = .ok (.ifCond .ne 5, 3) := by decide +kernel
theorem dX12_round_19 : decode mX12_round.cd 19 = .ok (.iconst 0, 1) := by decide +kernel
theorem dX12_round_20 : decode mX12_round.cd 20 = .ok (.ireturn, 1) := by decide +kernel
theorem dX12_round_21 : decode mX12_round.cd 21 = .ok (.iload_n 1, 1) := by decide +kernel
theorem dX12_round_22 : decode mX12_round.cd 22 = .ok (.iconst 2, 1) := by decide +kernel
theorem dX12_round_23 : decode mX12_round.cd 23 = .ok (.if_icmp .ne 8, 3) := by decide +kernel
theorem dX12_round_26 : decode mX12_round.cd 26 = .ok (.aload_n 0, 1) := by decide +kernel
theorem dX12_round_27 : decode mX12_round.cd 27 = .ok (.getfield 295, 3) := by decide +kernel
theorem dX12_round_30 : decode mX12_round.cd 30 = .ok (.ireturn, 1) := by decide +kernel
theorem dX12_round_31 : decode mX12_round.cd 31 = .ok (.iload_n 1, 1) := by decide +kernel
theorem dX12_round_32 : decode mX12_round.cd 32 = .ok (.ifCond .ne 12, 3) := by decide +kernel
theorem dX12_round_35 : decode mX12_round.cd 35 = .ok (.aload_n 0, 1) := by decide +kernel
theorem dX12_round_36 : decode mX12_round.cd 36 = .ok (.aload_n 0, 1) := by decide +kernel
theorem dX12_round_37 : decode mX12_round.cd 37 = .ok (.getfield 295, 3) := by decide +kernel
theorem dX12_round_40 : decode mX12_round.cd 40 = .ok (.invokevirtual 421, 3) := by decide +kernel
theorem dX12_round_43 : decode mX12_round.cd 43 = .ok (.ireturn, 1) := by decide +kernel
theorem dX12_round_44 : decode mX12_round.cd 44 = .ok (.iconst 0, 1) := by decide +kernel
theorem dX12_round_45 : decode mX12_round.cd 45 = .ok (.istore_n 2, 1) := by decide +kernel
theorem dX12_round_46 : decode mX12_round.cd 46 = .ok (.iload_n 2, 1) := by decide +kernel
theorem dX12_round_47 : decode mX12_round.cd 47 = .ok (.bipush 16, 2) := by decide +kernel
theorem dX12_round_49 : decode mX12_round.cd 49 = .ok (.if_icmp .gt 24, 3) := by decide +kernel
theorem dX12_round_52 : decode mX12_round.cd 52 = .ok (.aload_n 0, 1) := by decide +kernel
theorem dX12_round_53 : decode mX12_round.cd 53 = .ok (.aload_n 0, 1) := by decide +kernel
theorem dX12_round_54 : decode mX12_round.cd 54 = .ok (.getfield 295, 3) := by decide +kernel
theorem dX12_round_57 : decode mX12_round.cd 57 = .ok (.iload_n 2, 1) := by decide +kernel
theorem dX12_round_58 : decode mX12_round.cd 58 = .ok (.iadd, 1) := by decide +kernel
theorem dX12_round_59 : decode mX12_round.cd 59 = .ok (.invokevirtual 421, 3) := by decide +kernel
theorem dX12_round_62 : decode mX12_round.cd 62 = .ok (.ifCond .ne 5, 3) := by decide +kernel
theorem dX12_round_65 : decode mX12_round.cd 65 = .ok (.iload_n 2, 1) := by decide +kernel
theorem dX12_round_66 : decode mX12_round.cd 66 = .ok (.ireturn, 1) := by decide +kernel
theorem dX12_round_67 : decode mX12_round.cd 67 = .ok (.iinc 2 1, 3) := by decide +kernel
theorem dX12_round_70 : decode mX12_round.cd 70 = .ok (.goto (-24), 3) := by decide +kernel
theorem dX12_round_73 : decode mX12_round.cd 73 = .ok (.iconst (-1), 1) := by decide +kernel
theorem dX12_round_74 : decode mX12_round.cd 74 = .ok (.ireturn, 1) := by decide +kernel
theorem bX12_round_0 {fr M1 M2 b1 b2 : Nat} {Q : RS → Nat → AH → Prop} {h : AH} {l1 : Int} {x2 : AV} {R : Int → AH → Prop}   (hS : Sp mX12_within true (fr - 1) 0 0 [zI l1, zI 0, zI 2] 137 (up h 98 0 0) (rI R)) (hf : 1 ≤ fr := by omega) (kk : ∀ (x : Int) (h' : AH), R x h' → Wp mX12_round (kR fr M1 M2) Q (b1, b2) 12 [zR 98, zI l1, none] [zI x, zR 98] 137 h') : Wp mX12_round (kR fr M1 M2) Q (b1, b2) 0 [zR 98, zI l1, x2] [] 137 h := by
  refine s_fgt (fgt_c (fgt_c (fgt_n _ fgt_0))) ?_
  refine s_aload_n (x := 98) dX12_round_0 rfl ?_
  refine s_iconst dX12_round_1 ?_
  refine s_put (c := 98) dX12_round_2 lX12_136 e98 ?_
  refine s_aload_n (x := 98) dX12_round_5 rfl ?_
  refine s_iload_n (x := l1) dX12_round_6 rfl ?_
  refine s_iconst dX12_round_7 ?_
  refine s_iconst dX12_round_8 ?_
  exact s_callS (as := [zI l1, zI 0, zI 2]) (st := [zR 98]) dX12_round_9 kX12_301 rfl rfl (Nat.le_of_ble_eq_true rfl) hS (show fr - 1 + 1 ≤ fr by omega) (Nat.zero_le _) (Nat.zero_le _) (fun v n' h' hP _ => by obtain ⟨x, e, rfl, hR⟩ := hP; cases e; exact kk x h' hR) (fun E n' h' _ z => (rI_nt _ _ _ z).elim)
theorem bX12_round_12 {fr M1 M2 b1 b2 : Nat} {Q : RS → Nat → AH → Prop} {h : AH} {l1 s0 : Int} {x2 : AV} {R : Int → AH → Prop}   (hS : Sp mX12_right true (fr - 1) 0 0 [zR 98, zI s0, zI 1] 137 h (rI R)) (hf : 1 ≤ fr := by omega) (kk : ∀ (x : Int) (h' : AH), R x h' → Wp mX12_round (kR fr M1 M2) Q (b1, b2) 16 [zR 98, zI l1, none] [zI x] 137 h') : Wp mX12_round (kR fr M1 M2) Q (b1, b2) 12 [zR 98, zI l1, x2] [zI s0, zR 98] 137 h := by
  refine s_fgt (fgt_c (fgt_c (fgt_n _ fgt_0))) ?_
  refine s_iconst dX12_round_12 ?_
  exact s_callV (as := [zI s0, zI 1]) (st := []) (o := 98) dX12_round_13 kX12_260 rfl ⟨12, 87, TX12, e98, rfl, by decide⟩ rfl rfl (Nat.le_of_ble_eq_true rfl) hS (show fr - 1 + 1 ≤ fr by omega) (Nat.zero_le _) (Nat.zero_le _) (fun v n' h' hP _ => by obtain ⟨x, e, rfl, hR⟩ := hP; cases e; exact kk x h' hR) (fun E n' h' _ z => (rI_nt _ _ _ z).elim)
theorem bX12_round_16 {fr M1 M2 b1 b2 : Nat} {Q : RS → Nat → AH → Prop} {h : AH} {l1 s0 : Int} {x2 : AV}  (r1 : -2147483648 ≤ s0 ∧ s0 < 2147483648 := by omega) (kt : ¬ s0 = 0 → Wp mX12_round (kR fr M1 M2) Q (b1, b2) 21 [zR 98, zI l1, none] [] 137 h) (kf : s0 = 0 → Wp mX12_round (kR fr M1 M2) Q (b1, b2) 19 [zR 98, zI l1, none] [] 137 h) : Wp mX12_round (kR fr M1 M2) Q (b1, b2) 16 [zR 98, zI l1, x2] [zI s0] 137 h := by
  refine s_fgt (fgt_c (fgt_c (fgt_n _ fgt_0))) ?_
  exact s_if_ne (tgt := 21) dX12_round_16 (by decide) r1 kt kf
theorem bX12_round_19 {fr M1 M2 b1 b2 : Nat} {Q : RS → Nat → AH → Prop} {h : AH} {x0 x1 x2 : AV}   (hq : Q (.inl (some (zI 0))) 137 h) : Wp mX12_round (kR fr M1 M2) Q (b1, b2) 19 [x0, x1, x2] [] 137 h := by
  refine s_fgt (fgt_n _ (fgt_n _ (fgt_n _ fgt_0))) ?_
  refine s_iconst dX12_round_19 ?_
  exact s_ireturn dX12_round_20 ⟨.int, rfl, rfl⟩ hq (fun z => by cases z)
theorem bX12_round_21 {fr M1 M2 b1 b2 : Nat} {Q : RS → Nat → AH → Prop} {h : AH} {l1 : Int} {x2 : AV}  (r1 : -2147483648 ≤ l1 ∧ l1 < 2147483648 := by omega) (kt : ¬ l1 = 2 → Wp mX12_round (kR fr M1 M2) Q (b1, b2) 31 [zR 98, zI l1, none] [] 137 h) (kf : l1 = 2 → Wp mX12_round (kR fr M1 M2) Q (b1, b2) 26 [zR 98, zI l1, none] [] 137 h) : Wp mX12_round (kR fr M1 M2) Q (b1, b2) 21 [zR 98, zI l1, x2] [] 137 h := by
  refine s_fgt (fgt_c (fgt_c (fgt_n _ fgt_0))) ?_
  refine s_iload_n (x := l1) dX12_round_21 rfl ?_
  refine s_iconst dX12_round_22 ?_
  exact s_icmp_ne (tgt := 31) dX12_round_23 (by decide) r1 ⟨by decide, by decide⟩ kt kf
theorem bX12_round_26 {fr M1 M2 b1 b2 : Nat} {Q : RS → Nat → AH → Prop} {h : AH} {x1 x2 : AV}   (hq : Q (.inl (some (zI (h 98 66)))) 137 h) : Wp mX12_round (kR fr M1 M2) Q (b1, b2) 26 [zR 98, x1, x2] [] 137 h := by
  refine s_fgt (fgt_c (fgt_n _ (fgt_n _ fgt_0))) ?_
  refine s_aload_n (x := 98) dX12_round_26 rfl ?_
  refine s_get (c := 98) dX12_round_27 lX12_295 e98 (by decide) ?_
  exact s_ireturn dX12_round_30 ⟨.int, rfl, rfl⟩ hq (fun z => by cases z)
theorem bX12_round_31 {fr M1 M2 b1 b2 : Nat} {Q : RS → Nat → AH → Prop} {h : AH} {l1 : Int} {x2 : AV}  (r1 : -2147483648 ≤ l1 ∧ l1 < 2147483648 := by omega) (kt : ¬ l1 = 0 → Wp mX12_round (kR fr M1 M2) Q (b1, b2) 44 [zR 98, zI l1, none] [] 137 h) (kf : l1 = 0 → Wp mX12_round (kR fr M1 M2) Q (b1, b2) 35 [zR 98, zI l1, none] [] 137 h) : Wp mX12_round (kR fr M1 M2) Q (b1, b2) 31 [zR 98, zI l1, x2] [] 137 h := by
  refine s_fgt (fgt_c (fgt_c (fgt_n _ fgt_0))) ?_
  refine s_iload_n (x := l1) dX12_round_31 rfl ?_
  exact s_if_ne (tgt := 44) dX12_round_32 (by decide) r1 kt kf
theorem bX12_round_35 {fr M1 M2 b1 b2 : Nat} {Q : RS → Nat → AH → Prop} {h : AH} {x1 x2 : AV} {R : Int → AH → Prop}   (hS : Sp mX12_clashes true (fr - 1) 0 0 [zR 98, zI (h 98 66)] 137 h (rI R)) (hf : 1 ≤ fr := by omega) (kk : ∀ (x : Int) (h' : AH), R x h' → Wp mX12_round (kR fr M1 M2) Q (b1, b2) 43 [zR 98, none, none] [zI x] 137 h') : Wp mX12_round (kR fr M1 M2) Q (b1, b2) 35 [zR 98, x1, x2] [] 137 h := by
  refine s_fgt (fgt_c (fgt_n _ (fgt_n _ fgt_0))) ?_
  refine s_aload_n (x := 98) dX12_round_35 rfl ?_
  refine s_aload_n (x := 98) dX12_round_36 rfl ?_
  refine s_get (c := 98) dX12_round_37 lX12_295 e98 (by decide) ?_
  exact s_callV (as := [zI (h 98 66)]) (st := []) (o := 98) dX12_round_40 kX12_421 rfl ⟨12, 87, TX12, e98, rfl, by decide⟩ rfl rfl (Nat.le_of_ble_eq_true rfl) hS (show fr - 1 + 1 ≤ fr by omega) (Nat.zero_le _) (Nat.zero_le _) (fun v n' h' hP _ => by obtain ⟨x, e, rfl, hR⟩ := hP; cases e; exact kk x h' hR) (fun E n' h' _ z => (rI_nt _ _ _ z).elim)
theorem bX12_round_43 {fr M1 M2 b1 b2 : Nat} {Q : RS → Nat → AH → Prop} {h : AH} {s0 : Int} {x0 x1 x2 : AV}   (hq : Q (.inl (some (zI s0))) 137 h) : Wp mX12_round (kR fr M1 M2) Q (b1, b2) 43 [x0, x1, x2] [zI s0] 137 h := by
  refine s_fgt (fgt_n _ (fgt_n _ (fgt_n _ fgt_0))) ?_
  exact s_ireturn dX12_round_43 ⟨.int, rfl, rfl⟩ hq (fun z => by cases z)
theorem bX12_round_44 {fr M1 M2 b1 b2 : Nat} {Q : RS → Nat → AH → Prop} {h : AH} {x1 x2 : AV}   (kk : Wp mX12_round (kR fr M1 M2) Q (b1, b2) 46 [zR 98, none, zI 0] [] 137 h) : Wp mX12_round (kR fr M1 M2) Q (b1, b2) 44 [zR 98, x1, x2] [] 137 h := by
  refine s_fgt (fgt_c (fgt_n _ (fgt_n _ fgt_0))) ?_
  refine s_iconst dX12_round_44 ?_
  refine s_istore_n dX12_round_45 rfl (by decide) ?_
  exact kk
theorem bX12_round_46 {fr M1 M2 b1 b2 : Nat} {Q : RS → Nat → AH → Prop} {h : AH} {l2 : Int} {x1 : AV}  (r1 : -2147483648 ≤ l2 ∧ l2 < 2147483648 := by omega) (kt : 16 < l2 → Wp mX12_round (kR fr M1 M2) Q (b1, b2) 73 [zR 98, none, zI l2] [] 137 h) (kf : l2 ≤ 16 → Wp mX12_round (kR fr M1 M2) Q (b1, b2) 52 [zR 98, none, zI l2] [] 137 h) : Wp mX12_round (kR fr M1 M2) Q (b1, b2) 46 [zR 98, x1, zI l2] [] 137 h := by
  refine s_fgt (fgt_c (fgt_n _ (fgt_c fgt_0))) ?_
  refine s_iload_n (x := l2) dX12_round_46 rfl ?_
  refine s_bipush dX12_round_47 (by decide) ?_
  exact s_icmp_gt (tgt := 73) dX12_round_49 (by decide) r1 ⟨by decide, by decide⟩ kt kf
theorem bX12_round_52 {fr M1 M2 b1 b2 : Nat} {Q : RS → Nat → AH → Prop} {h : AH} {l2 : Int} {x1 : AV} {R : Int → AH → Prop}   (hS : Sp mX12_clashes true (fr - 1) 0 0 [zR 98, zI ((h 98 66) + l2)] 137 h (rI R)) (hf : 1 ≤ fr := by omega) (kk : ∀ (x : Int) (h' : AH), R x h' → Wp mX12_round (kR fr M1 M2) Q (b1, b2) 62 [zR 98, none, zI l2] [zI x] 137 h') : Wp mX12_round (kR fr M1 M2) Q (b1, b2) 52 [zR 98, x1, zI l2] [] 137 h := by
  refine s_fgt (fgt_c (fgt_n _ (fgt_c fgt_0))) ?_
  refine s_aload_n (x := 98) dX12_round_52 rfl ?_
  refine s_aload_n (x := 98) dX12_round_53 rfl ?_
  refine s_get (c := 98) dX12_round_54 lX12_295 e98 (by decide) ?_
  refine s_iload_n (x := l2) dX12_round_57 rfl ?_
  refine s_iadd dX12_round_58 ?_
  exact s_callV (as := [zI ((h 98 66) + l2)]) (st := []) (o := 98) dX12_round_59 kX12_421 rfl ⟨12, 87, TX12, e98, rfl, by decide⟩ rfl rfl (Nat.le_of_ble_eq_true rfl) hS (show fr - 1 + 1 ≤ fr by omega) (Nat.zero_le _) (Nat.zero_le _) (fun v n' h' hP _ => by obtain ⟨x, e, rfl, hR⟩ := hP; cases e; exact kk x h' hR) (fun E n' h' _ z => (rI_nt _ _ _ z).elim)
theorem bX12_round_62 {fr M1 M2 b1 b2 : Nat} {Q : RS → Nat → AH → Prop} {h : AH} {l2 s0 : Int} {x1 : AV}  (r1 : -2147483648 ≤ s0 ∧ s0 < 2147483648 := by omega) (kt : ¬ s0 = 0 → Wp mX12_round (kR fr M1 M2) Q (b1, b2) 67 [zR 98, none, zI l2] [] 137 h) (kf : s0 = 0 → Wp mX12_round (kR fr M1 M2) Q (b1, b2) 65 [zR 98, none, zI l2] [] 137 h) : Wp mX12_round (kR fr M1 M2) Q (b1, b2) 62 [zR 98, x1, zI l2] [zI s0] 137 h := by
  refine s_fgt (fgt_c (fgt_n _ (fgt_c fgt_0))) ?_
  exact s_if_ne (tgt := 67) dX12_round_62 (by decide) r1 kt kf
theorem bX12_round_65 {fr M1 M2 b1 b2 : Nat} {Q : RS → Nat → AH → Prop} {h : AH} {l2 : Int} {x0 x1 : AV}   (hq : Q (.inl (some (zI l2))) 137 h) : Wp mX12_round (kR fr M1 M2) Q (b1, b2) 65 [x0, x1, zI l2] [] 137 h := by
  refine s_fgt (fgt_n _ (fgt_n _ (fgt_c fgt_0))) ?_
  refine s_iload_n (x := l2) dX12_round_65 rfl ?_
  exact s_ireturn dX12_round_66 ⟨.int, rfl, rfl⟩ hq (fun z => by cases z)
theorem bX12_round_67 {fr M1 M2 b1 b2 : Nat} {Q : RS → Nat → AH → Prop} {h : AH} {l2 : Int} {x1 : AV}   (kk : Wp mX12_round (kR fr M1 M2) Q (b1, b2) 46 [zR 98, none, zI (l2 + 1)] [] 137 h) : Wp mX12_round (kR fr M1 M2) Q (b1, b2) 67 [zR 98, x1, zI l2] [] 137 h := by
  refine s_fgt (fgt_c (fgt_n _ (fgt_c fgt_0))) ?_
  refine s_iinc (x := l2) dX12_round_67 rfl rfl (by decide) ?_
  exact s_goto (tgt := 46) dX12_round_70 (by decide) kk
theorem bX12_round_73 {fr M1 M2 b1 b2 : Nat} {Q : RS → Nat → AH → Prop} {h : AH} {x0 x1 x2 : AV}   (hq : Q (.inl (some (zI (-1)))) 137 h) : Wp mX12_round (kR fr M1 M2) Q (b1, b2) 73 [x0, x1, x2] [] 137 h := by
  refine s_fgt (fgt_n _ (fgt_n _ (fgt_n _ fgt_0))) ?_
  refine s_iconst dX12_round_73 ?_
  exact s_ireturn dX12_round_74 ⟨.int, rfl, rfl⟩ hq (fun z => by cases z)
theorem dX12_tell_0 : decode mX12_tell.cd 0 = .ok (.aload_n 0, 1) := by decide +kernel
theorem dX12_tell_1 : decode mX12_tell.cd 1 = .ok (.iconst 0, 1) := by decide +kernel
theorem dX12_tell_2 : decode mX12_tell.cd 2 = .ok (.putfield 136, 3) := by decide +kernel
theorem dX12_tell_5 : decode mX12_tell.cd 5 = .ok (.iload_n 1, 1) := by decide +kernel
theorem dX12_tell_6 : decode mX12_tell.cd 6 = .ok (.iconst (-1), 1) := by decide +kernel
theorem dX12_tell_7 : decode mX12_tell.cd 7 = .ok (.if_icmp .eq 13, 3) := by decide +kernel
theorem dX12_tell_10 : decode mX12_tell.cd 10 = .ok (.aload_n 0, 1) := by decide +kernel
theorem dX12_tell_11 : decode mX12_tell.cd 11 = .ok (.iload_n 1, 1) := by decide +kernel
theorem dX12_tell_12 : decode mX12_tell.cd 12 = .ok (.invokevirtual 325, 3) := by decide +kernel
theorem dX12_tell_15 : decode mX12_tell.cd 15 = .ok (.ifCond .ne 5, 3) := by decide +kernel
theorem dX12_tell_18 : decode mX12_tell.cd 18 = .ok (.iconst 0, 1) := by decide +kernel
theorem dX12_tell_19 : decode mX12_tell.cd 19 = .ok (.ireturn, 1) := by decide +kernel
theorem dX12_tell_20 : decode mX12_tell.cd 20 = .ok (.aload_n 0, 1) := by decide +kernel
theorem dX12_tell_21 : decode mX12_tell.cd 21 = .ok (.getfield 292, 3) := by decide +kernel
theorem dX12_tell_24 : decode mX12_tell.cd 24 = .ok (.bipush 60, 2) := by decide +kernel
theorem dX12_tell_26 : decode mX12_tell.cd 26 = .ok (.if_icmp .ne 15, 3) := by decide +kernel
theorem dX12_tell_29 : decode mX12_tell.cd 29 = .ok (.aload_n 0, 1) := by decide +kernel
theorem dX12_tell_30 : decode mX12_tell.cd 30 = .ok (.getfield 41, 3) := by decide +kernel
theorem dX12_tell_33 : decode mX12_tell.cd 33 = .ok (.iconst 2, 1) := by decide +kernel
theorem dX12_tell_34 : decode mX12_tell.cd 34 = .ok (.dup2, 1) := by decide +kernel
theorem dX12_tell_35 : decode mX12_tell.cd 35 = .ok (.iaload, 1) := by decide +kernel
theorem dX12_tell_36 : decode mX12_tell.cd 36 = .ok (.iconst 1, 1) := by decide +kernel
theorem dX12_tell_37 : decode mX12_tell.cd 37 = .ok (.iadd, 1) := by decide +kernel
theorem dX12_tell_38 : decode mX12_tell.cd 38 = .ok (.iastore, 1) := by decide +kernel
theorem dX12_tell_39 : decode mX12_tell.cd 39 = .ok (.iconst (-1), 1) := by decide +kernel
theorem dX12_tell_40 : decode mX12_tell.cd 40 = .ok (.ireturn, 1) := by decide +kernel
theorem dX12_tell_41 : decode mX12_tell.cd 41 = .ok (.aload_n 0, 1) := by decide +kernel
theorem dX12_tell_42 : decode mX12_tell.cd 42 = .ok (.getfield 95, 3) := by decide +kernel
theorem dX12_tell_45 : decode mX12_tell.cd 45 = .ok (.aload_n 0, 1) := by decide +kernel
theorem dX12_tell_46 : decode mX12_tell.cd 46 = .ok (.getfield 292, 3) := by decide +kernel
theorem dX12_tell_49 : decode mX12_tell.cd 49 = .ok (.iload_n 1, 1) := by decide +kernel
theorem dX12_tell_50 : decode mX12_tell.cd 50 = .ok (.iastore, 1) := by decide +kernel
theorem dX12_tell_51 : decode mX12_tell.cd 51 = .ok (.aload_n 0, 1) := by decide +kernel
theorem dX12_tell_52 : decode mX12_tell.cd 52 = .ok (.dup, 1) := by decide +kernel
theorem dX12_tell_53 : decode mX12_tell.cd 53 = .ok (.getfield 292, 3) := by decide +kernel
theorem dX12_tell_56 : decode mX12_tell.cd 56 = .ok (.iconst 1, 1) := by decide +kernel
theorem dX12_tell_57 : decode mX12_tell.cd 57 = .ok (.iadd, 1) := by decide +kernel
theorem dX12_tell_58 : decode mX12_tell.cd 58 = .ok (.putfield 292, 3) := by decide +kernel
theorem dX12_tell_61 : decode mX12_tell.cd 61 = .ok (.aload_n 0, 1) := by decide +kernel
theorem dX12_tell_62 : decode mX12_tell.cd 62 = .ok (.getfield 292, 3) := by decide +kernel
theorem dX12_tell_65 : decode mX12_tell.cd 65 = .ok (.ireturn, 1) := by decide +kernel
theorem bX12_tell_0 {fr M1 M2 b1 b2 : Nat} {Q : RS → Nat → AH → Prop} {h : AH} {l1 : Int}  (r1 : -2147483648 ≤ l1 ∧ l1 < 2147483648 := by omega) (kt : l1 = (-1) → Wp mX12_tell (kR fr M1 M2) Q (b1, b2) 20 [zR 98, zI l1] [] 137 (up h 98 0 0)) (kf : ¬ l1 = (-1) → Wp mX12_tell (kR fr M1 M2) Q (b1, b2) 10 [zR 98, zI l1] [] 137 (up h 98 0 0)) : Wp mX12_tell (kR fr M1 M2) Q (b1, b2) 0 [zR 98, zI l1] [] 137 h := by
  refine s_aload_n (x := 98) dX12_tell_0 rfl ?_
  refine s_iconst dX12_tell_1 ?_
  refine s_put (c := 98) dX12_tell_2 lX12_136 e98 ?_
  refine s_iload_n (x := l1) dX12_tell_5 rfl ?_
  refine s_iconst dX12_tell_6 ?_
  exact s_icmp_eq (tgt := 20) dX12_tell_7 (by decide) r1 ⟨by decide, by decide⟩ kt kf
theorem bX12_tell_10 {fr M1 M2 b1 b2 : Nat} {Q : RS → Nat → AH → Prop} {h : AH} {l1 : Int} {R : Int → AH → Prop}   (hS : Sp mX12_isSound true (fr - 1) 0 0 [zR 98, zI l1] 137 h (rI R)) (hf : 1 ≤ fr := by omega) (kk : ∀ (x : Int) (h' : AH), R x h' → Wp mX12_tell (kR fr M1 M2) Q (b1, b2) 15 [zR 98, zI l1] [zI x] 137 h') : Wp mX12_tell (kR fr M1 M2) Q (b1, b2) 10 [zR 98, zI l1] [] 137 h := by
  refine s_aload_n (x := 98) dX12_tell_10 rfl ?_
  refine s_iload_n (x := l1) dX12_tell_11 rfl ?_
  exact s_callV (as := [zI l1]) (st := []) (o := 98) dX12_tell_12 kX12_325 rfl ⟨12, 87, TX12, e98, rfl, by decide⟩ rfl rfl (Nat.le_of_ble_eq_true rfl) hS (show fr - 1 + 1 ≤ fr by omega) (Nat.zero_le _) (Nat.zero_le _) (fun v n' h' hP _ => by obtain ⟨x, e, rfl, hR⟩ := hP; cases e; exact kk x h' hR) (fun E n' h' _ z => (rI_nt _ _ _ z).elim)
theorem bX12_tell_15 {fr M1 M2 b1 b2 : Nat} {Q : RS → Nat → AH → Prop} {h : AH} {l1 s0 : Int}  (r1 : -2147483648 ≤ s0 ∧ s0 < 2147483648 := by omega) (kt : ¬ s0 = 0 → Wp mX12_tell (kR fr M1 M2) Q (b1, b2) 20 [zR 98, zI l1] [] 137 h) (kf : s0 = 0 → Wp mX12_tell (kR fr M1 M2) Q (b1, b2) 18 [zR 98, zI l1] [] 137 h) : Wp mX12_tell (kR fr M1 M2) Q (b1, b2) 15 [zR 98, zI l1] [zI s0] 137 h := by
  exact s_if_ne (tgt := 20) dX12_tell_15 (by decide) r1 kt kf
theorem bX12_tell_18 {fr M1 M2 b1 b2 : Nat} {Q : RS → Nat → AH → Prop} {h : AH} {x0 x1 : AV}   (hq : Q (.inl (some (zI 0))) 137 h) : Wp mX12_tell (kR fr M1 M2) Q (b1, b2) 18 [x0, x1] [] 137 h := by
  refine s_fgt (fgt_n _ (fgt_n _ fgt_0)) ?_
  refine s_iconst dX12_tell_18 ?_
  exact s_ireturn dX12_tell_19 ⟨.int, rfl, rfl⟩ hq (fun z => by cases z)
theorem bX12_tell_20 {fr M1 M2 b1 b2 : Nat} {Q : RS → Nat → AH → Prop} {h : AH} {l1 : Int}  (r1 : -2147483648 ≤ h 98 68 ∧ h 98 68 < 2147483648 := by omega) (kt : ¬ h 98 68 = 60 → Wp mX12_tell (kR fr M1 M2) Q (b1, b2) 41 [zR 98, zI l1] [] 137 h) (kf : h 98 68 = 60 → Wp mX12_tell (kR fr M1 M2) Q (b1, b2) 29 [zR 98, zI l1] [] 137 h) : Wp mX12_tell (kR fr M1 M2) Q (b1, b2) 20 [zR 98, zI l1] [] 137 h := by
  refine s_aload_n (x := 98) dX12_tell_20 rfl ?_
  refine s_get (c := 98) dX12_tell_21 lX12_292 e98 (by decide) ?_
  refine s_bipush dX12_tell_24 (by decide) ?_
  exact s_icmp_ne (tgt := 41) dX12_tell_26 (by decide) r1 ⟨by decide, by decide⟩ kt kf
theorem bX12_tell_29 {fr M1 M2 b1 b2 : Nat} {Q : RS → Nat → AH → Prop} {h : AH} {x1 : AV}   (hq : Q (.inl (some (zI (-1)))) 137 (up h 107 2 ((h 107 2) + 1))) : Wp mX12_tell (kR fr M1 M2) Q (b1, b2) 29 [zR 98, x1] [] 137 h := by
  refine s_fgt (fgt_c (fgt_n _ fgt_0)) ?_
  refine s_aload_n (x := 98) dX12_tell_29 rfl ?_
  refine s_getFd (c := 98) (d := 107) dX12_tell_30 lX12_41 e98 (Or.inl rfl) (by decide) (by decide) ?_
  refine s_iconst dX12_tell_33 ?_
  refine s_dup2 dX12_tell_34 rfl rfl ?_
  refine s_iald (c := 107) (i := 2) dX12_tell_35 e107 (by decide) (by decide) ?_
  refine s_iconst dX12_tell_36 ?_
  refine s_iadd dX12_tell_37 ?_
  refine s_iast (c := 107) (i := 2) dX12_tell_38 e107 (by decide) (by decide) ?_
  refine s_iconst dX12_tell_39 ?_
  exact s_ireturn dX12_tell_40 ⟨.int, rfl, rfl⟩ hq (fun z => by cases z)
theorem bX12_tell_41 {fr M1 M2 b1 b2 : Nat} {Q : RS → Nat → AH → Prop} {h : AH} {l1 : Int}  (r1 : 0 ≤ h 98 68 ∧ h 98 68 < 60 := by omega) (hq : Q (.inl (some (zI ((h 98 68) + 1)))) 137 (up (up h 124 (h 98 68) l1) 98 68 ((h 98 68) + 1))) : Wp mX12_tell (kR fr M1 M2) Q (b1, b2) 41 [zR 98, zI l1] [] 137 h := by
  refine s_aload_n (x := 98) dX12_tell_41 rfl ?_
  refine s_getFd (c := 98) (d := 124) dX12_tell_42 lX12_95 e98 (Or.inl rfl) (by decide) (by decide) ?_
  refine s_aload_n (x := 98) dX12_tell_45 rfl ?_
  refine s_get (c := 98) dX12_tell_46 lX12_292 e98 (by decide) ?_
  refine s_iload_n (x := l1) dX12_tell_49 rfl ?_
  refine s_iast (c := 124) (i := h 98 68) dX12_tell_50 e124 r1.1 r1.2 ?_
  refine s_aload_n (x := 98) dX12_tell_51 rfl ?_
  refine s_dup dX12_tell_52 rfl ?_
  refine s_get (c := 98) dX12_tell_53 lX12_292 e98 (by decide) ?_
  refine s_iconst dX12_tell_56 ?_
  refine s_iadd dX12_tell_57 ?_
  refine s_put (c := 98) dX12_tell_58 lX12_292 e98 ?_
  refine s_aload_n (x := 98) dX12_tell_61 rfl ?_
  refine s_get (c := 98) dX12_tell_62 lX12_292 e98 (by decide) ?_
  exact s_ireturn dX12_tell_65 ⟨.int, rfl, rfl⟩ hq (fun z => by cases z)
theorem dX12_untell_0 : decode mX12_untell.cd 0 = .ok (.aload_n 0, 1) := by decide +kernel
theorem dX12_untell_1 : decode mX12_untell.cd 1 = .ok (.iconst 0, 1) := by decide +kernel
theorem dX12_untell_2 : decode mX12_untell.cd 2 = .ok (.putfield 136, 3) := by decide +kernel
theorem dX12_untell_5 : decode mX12_untell.cd 5 = .ok (.aload_n 0, 1) := by decide +kernel
theorem dX12_untell_6 : decode mX12_untell.cd 6 = .ok (.getfield 292, 3) := by decide +kernel
theorem dX12_untell_9 : decode mX12_untell.cd 9 = .ok (.istore_n 1, 1) := by decide +kernel
theorem dX12_untell_10 : decode mX12_untell.cd 10 = .ok (.aload_n 0, 1) := by decide +kernel
theorem dX12_untell_11 : decode mX12_untell.cd 11 = .ok (.iconst 0, 1) := by decide +kernel
theorem dX12_untell_12 : decode mX12_untell.cd 12 = .ok (.putfield 292, 3) := by decide +kernel
theorem dX12_untell_15 : decode mX12_untell.cd 15 = .ok (.iload_n 1, 1) := by decide +kernel
theorem dX12_untell_16 : decode mX12_untell.cd 16 = .ok (.ireturn, 1) := by decide +kernel
theorem bX12_untell_0 {fr M1 M2 b1 b2 : Nat} {Q : RS → Nat → AH → Prop} {h : AH} {x1 : AV}   (hq : Q (.inl (some (zI (h 98 68)))) 137 (up (up h 98 0 0) 98 68 0)) : Wp mX12_untell (kR fr M1 M2) Q (b1, b2) 0 [zR 98, x1] [] 137 h := by
  refine s_fgt (fgt_c (fgt_n _ fgt_0)) ?_
  refine s_aload_n (x := 98) dX12_untell_0 rfl ?_
  refine s_iconst dX12_untell_1 ?_
  refine s_put (c := 98) dX12_untell_2 lX12_136 e98 ?_
  refine s_aload_n (x := 98) dX12_untell_5 rfl ?_
  refine s_get (c := 98) dX12_untell_6 lX12_292 e98 (by decide) ?_
  refine s_istore_n dX12_untell_9 rfl (by decide) ?_
  refine s_aload_n (x := 98) dX12_untell_10 rfl ?_
  refine s_iconst dX12_untell_11 ?_
  refine s_put (c := 98) dX12_untell_12 lX12_292 e98 ?_
  refine s_iload_n (x := h 98 68) dX12_untell_15 rfl ?_
  exact s_ireturn dX12_untell_16 ⟨.int, rfl, rfl⟩ hq (fun z => by cases z)
theorem dX12_toldAt_0 : decode mX12_toldAt.cd 0 = .ok (.iload_n 1, 1) := by decide +kernel
theorem dX12_toldAt_1 : decode mX12_toldAt.cd 1 = .ok (.aload_n 0, 1) := by decide +kernel
theorem dX12_toldAt_2 : decode mX12_toldAt.cd 2 = .ok (.getfield 292, 3) := by decide +kernel
theorem dX12_toldAt_5 : decode mX12_toldAt.cd 5 = .ok (.if_icmp .ge 12, 3) := by decide +kernel
theorem dX12_toldAt_8 : decode mX12_toldAt.cd 8 = .ok (.aload_n 0, 1) := by decide +kernel
theorem dX12_toldAt_9 : decode mX12_toldAt.cd 9 = .ok (.getfield 95, 3) := by decide +kernel
theorem dX12_toldAt_12 : decode mX12_toldAt.cd 12 = .ok (.iload_n 1, 1) := by decide +kernel
theorem dX12_toldAt_13 : decode mX12_toldAt.cd 13 = .ok (.iaload, 1) := by decide +kernel
theorem dX12_toldAt_14 : decode mX12_toldAt.cd 14 = .ok (.goto 4, 3) := by decide +kernel
theorem dX12_toldAt_17 : decode mX12_toldAt.cd 17 = .ok (.iconst (-1), 1) := by decide +kernel
theorem dX12_toldAt_18 : decode mX12_toldAt.cd 18 = .ok (.ireturn, 1) := by decide +kernel
theorem bX12_toldAt_0 {fr M1 M2 b1 b2 : Nat} {Q : RS → Nat → AH → Prop} {h : AH} {l1 : Int}  (r1 : -2147483648 ≤ l1 ∧ l1 < 2147483648 := by omega) (r2 : -2147483648 ≤ h 98 68 ∧ h 98 68 < 2147483648 := by omega) (kt : h 98 68 ≤ l1 → Wp mX12_toldAt (kR fr M1 M2) Q (b1, b2) 17 [zR 98, zI l1] [] 137 h) (kf : l1 < h 98 68 → Wp mX12_toldAt (kR fr M1 M2) Q (b1, b2) 8 [zR 98, zI l1] [] 137 h) : Wp mX12_toldAt (kR fr M1 M2) Q (b1, b2) 0 [zR 98, zI l1] [] 137 h := by
  refine s_iload_n (x := l1) dX12_toldAt_0 rfl ?_
  refine s_aload_n (x := 98) dX12_toldAt_1 rfl ?_
  refine s_get (c := 98) dX12_toldAt_2 lX12_292 e98 (by decide) ?_
  exact s_icmp_ge (tgt := 17) dX12_toldAt_5 (by decide) r1 r2 kt kf
theorem bX12_toldAt_8 {fr M1 M2 b1 b2 : Nat} {Q : RS → Nat → AH → Prop} {h : AH} {l1 : Int}  (r1 : 0 ≤ l1 ∧ l1 < 60 := by omega) (kk : Wp mX12_toldAt (kR fr M1 M2) Q (b1, b2) 18 [zR 98, zI l1] [zI (h 124 l1)] 137 h) : Wp mX12_toldAt (kR fr M1 M2) Q (b1, b2) 8 [zR 98, zI l1] [] 137 h := by
  refine s_aload_n (x := 98) dX12_toldAt_8 rfl ?_
  refine s_getFd (c := 98) (d := 124) dX12_toldAt_9 lX12_95 e98 (Or.inl rfl) (by decide) (by decide) ?_
  refine s_iload_n (x := l1) dX12_toldAt_12 rfl ?_
  refine s_iald (c := 124) (i := l1) dX12_toldAt_13 e124 r1.1 r1.2 ?_
  exact s_goto (tgt := 18) dX12_toldAt_14 (by decide) kk
theorem bX12_toldAt_17 {fr M1 M2 b1 b2 : Nat} {Q : RS → Nat → AH → Prop} {h : AH} {x0 x1 : AV}   (kk : Wp mX12_toldAt (kR fr M1 M2) Q (b1, b2) 18 [none, none] [zI (-1)] 137 h) : Wp mX12_toldAt (kR fr M1 M2) Q (b1, b2) 17 [x0, x1] [] 137 h := by
  refine s_fgt (fgt_n _ (fgt_n _ fgt_0)) ?_
  refine s_iconst dX12_toldAt_17 ?_
  exact kk
theorem bX12_toldAt_18 {fr M1 M2 b1 b2 : Nat} {Q : RS → Nat → AH → Prop} {h : AH} {s0 : Int} {x0 x1 : AV}   (hq : Q (.inl (some (zI s0))) 137 h) : Wp mX12_toldAt (kR fr M1 M2) Q (b1, b2) 18 [x0, x1] [zI s0] 137 h := by
  refine s_fgt (fgt_n _ (fgt_n _ fgt_0)) ?_
  exact s_ireturn dX12_toldAt_18 ⟨.int, rfl, rfl⟩ hq (fun z => by cases z)
theorem dX12_isTold_0 : decode mX12_isTold.cd 0 = .ok (.iconst 0, 1) := by decide +kernel
theorem dX12_isTold_1 : decode mX12_isTold.cd 1 = .ok (.istore_n 1, 1) := by decide +kernel
theorem dX12_isTold_2 : decode mX12_isTold.cd 2 = .ok (.iload_n 1, 1) := by decide +kernel
theorem dX12_isTold_3 : decode mX12_isTold.cd 3 = .ok (.bipush 60, 2) := by decide +kernel
theorem dX12_isTold_5 : decode mX12_isTold.cd 5 = .ok (.if_icmp .ge 24, 3) := by decide +kernel
theorem dX12_isTold_8 : decode mX12_isTold.cd 8 = .ok (.aload_n 0, 1) := by decide +kernel
theorem dX12_isTold_9 : decode mX12_isTold.cd 9 = .ok (.iload_n 1, 1) := by decide +kernel
theorem dX12_isTold_10 : decode mX12_isTold.cd 10 = .ok (.invokevirtual 341, 3) := by decide +kernel
theorem dX12_isTold_13 : decode mX12_isTold.cd 13 = .ok (.aload_n 0, 1) := by decide +kernel
theorem dX12_isTold_14 : decode mX12_isTold.cd 14 = .ok (.iload_n 1, 1) := by decide +kernel
theorem dX12_isTold_15 : decode mX12_isTold.cd 15 = .ok (.invokevirtual 424, 3) := by decide +kernel
theorem dX12_isTold_18 : decode mX12_isTold.cd 18 = .ok (.if_icmp .eq 5, 3) := by decide +kernel
theorem dX12_isTold_21 : decode mX12_isTold.cd 21 = .ok (.iconst 0, 1) := by decide +kernel
theorem dX12_isTold_22 : decode mX12_isTold.cd 22 = .ok (.ireturn, 1) := by decide +kernel
theorem dX12_isTold_23 : decode mX12_isTold.cd 23 = .ok (.iinc 1 1, 3) := by decide +kernel
theorem dX12_isTold_26 : decode mX12_isTold.cd 26 = .ok (.goto (-24), 3) := by decide +kernel
theorem dX12_isTold_29 : decode mX12_isTold.cd 29 = .ok (.iconst 1, 1) := by decide +kernel
theorem dX12_isTold_30 : decode mX12_isTold.cd 30 = .ok (.ireturn, 1) := by decide +kernel
theorem bX12_isTold_0 {fr M1 M2 b1 b2 : Nat} {Q : RS → Nat → AH → Prop} {h : AH} {x1 : AV}   (kk : Wp mX12_isTold (kR fr M1 M2) Q (b1, b2) 2 [zR 98, zI 0] [] 137 h) : Wp mX12_isTold (kR fr M1 M2) Q (b1, b2) 0 [zR 98, x1] [] 137 h := by
  refine s_fgt (fgt_c (fgt_n _ fgt_0)) ?_
  refine s_iconst dX12_isTold_0 ?_
  refine s_istore_n dX12_isTold_1 rfl (by decide) ?_
  exact kk
theorem bX12_isTold_2 {fr M1 M2 b1 b2 : Nat} {Q : RS → Nat → AH → Prop} {h : AH} {l1 : Int}  (r1 : -2147483648 ≤ l1 ∧ l1 < 2147483648 := by omega) (kt : 60 ≤ l1 → Wp mX12_isTold (kR fr M1 M2) Q (b1, b2) 29 [zR 98, zI l1] [] 137 h) (kf : l1 < 60 → Wp mX12_isTold (kR fr M1 M2) Q (b1, b2) 8 [zR 98, zI l1] [] 137 h) : Wp mX12_isTold (kR fr M1 M2) Q (b1, b2) 2 [zR 98, zI l1] [] 137 h := by
  refine s_iload_n (x := l1) dX12_isTold_2 rfl ?_
  refine s_bipush dX12_isTold_3 (by decide) ?_
  exact s_icmp_ge (tgt := 29) dX12_isTold_5 (by decide) r1 ⟨by decide, by decide⟩ kt kf
theorem bX12_isTold_8 {fr M1 M2 b1 b2 : Nat} {Q : RS → Nat → AH → Prop} {h : AH} {l1 : Int} {R : Int → AH → Prop}   (hS : Sp mX12_hears true (fr - 1) 0 0 [zR 98, zI l1] 137 h (rI R)) (hf : 1 ≤ fr := by omega) (kk : ∀ (x : Int) (h' : AH), R x h' → Wp mX12_isTold (kR fr M1 M2) Q (b1, b2) 13 [zR 98, zI l1] [zI x] 137 h') : Wp mX12_isTold (kR fr M1 M2) Q (b1, b2) 8 [zR 98, zI l1] [] 137 h := by
  refine s_aload_n (x := 98) dX12_isTold_8 rfl ?_
  refine s_iload_n (x := l1) dX12_isTold_9 rfl ?_
  exact s_callV (as := [zI l1]) (st := []) (o := 98) dX12_isTold_10 kX12_341 rfl ⟨12, 87, TX12, e98, rfl, by decide⟩ rfl rfl (Nat.le_of_ble_eq_true rfl) hS (show fr - 1 + 1 ≤ fr by omega) (Nat.zero_le _) (Nat.zero_le _) (fun v n' h' hP _ => by obtain ⟨x, e, rfl, hR⟩ := hP; cases e; exact kk x h' hR) (fun E n' h' _ z => (rI_nt _ _ _ z).elim)
theorem bX12_isTold_13 {fr M1 M2 b1 b2 : Nat} {Q : RS → Nat → AH → Prop} {h : AH} {l1 s0 : Int} {R : Int → AH → Prop}   (hS : Sp mX12_toldAt true (fr - 1) 0 0 [zR 98, zI l1] 137 h (rI R)) (hf : 1 ≤ fr := by omega) (kk : ∀ (x : Int) (h' : AH), R x h' → Wp mX12_isTold (kR fr M1 M2) Q (b1, b2) 18 [zR 98, zI l1] [zI x, zI s0] 137 h') : Wp mX12_isTold (kR fr M1 M2) Q (b1, b2) 13 [zR 98, zI l1] [zI s0] 137 h := by
  refine s_aload_n (x := 98) dX12_isTold_13 rfl ?_
  refine s_iload_n (x := l1) dX12_isTold_14 rfl ?_
  exact s_callV (as := [zI l1]) (st := [zI s0]) (o := 98) dX12_isTold_15 kX12_424 rfl ⟨12, 87, TX12, e98, rfl, by decide⟩ rfl rfl (Nat.le_of_ble_eq_true rfl) hS (show fr - 1 + 1 ≤ fr by omega) (Nat.zero_le _) (Nat.zero_le _) (fun v n' h' hP _ => by obtain ⟨x, e, rfl, hR⟩ := hP; cases e; exact kk x h' hR) (fun E n' h' _ z => (rI_nt _ _ _ z).elim)
theorem bX12_isTold_18 {fr M1 M2 b1 b2 : Nat} {Q : RS → Nat → AH → Prop} {h : AH} {l1 s1 s0 : Int}  (r1 : -2147483648 ≤ s1 ∧ s1 < 2147483648 := by omega) (r2 : -2147483648 ≤ s0 ∧ s0 < 2147483648 := by omega) (kt : s1 = s0 → Wp mX12_isTold (kR fr M1 M2) Q (b1, b2) 23 [zR 98, zI l1] [] 137 h) (kf : ¬ s1 = s0 → Wp mX12_isTold (kR fr M1 M2) Q (b1, b2) 21 [zR 98, zI l1] [] 137 h) : Wp mX12_isTold (kR fr M1 M2) Q (b1, b2) 18 [zR 98, zI l1] [zI s0, zI s1] 137 h := by
  exact s_icmp_eq (tgt := 23) dX12_isTold_18 (by decide) r1 r2 kt kf
theorem bX12_isTold_21 {fr M1 M2 b1 b2 : Nat} {Q : RS → Nat → AH → Prop} {h : AH} {x0 x1 : AV}   (hq : Q (.inl (some (zI 0))) 137 h) : Wp mX12_isTold (kR fr M1 M2) Q (b1, b2) 21 [x0, x1] [] 137 h := by
  refine s_fgt (fgt_n _ (fgt_n _ fgt_0)) ?_
  refine s_iconst dX12_isTold_21 ?_
  exact s_ireturn dX12_isTold_22 ⟨.boolean, rfl, by decide⟩ hq (fun z => by cases z)
theorem bX12_isTold_23 {fr M1 M2 b1 b2 : Nat} {Q : RS → Nat → AH → Prop} {h : AH} {l1 : Int}   (kk : Wp mX12_isTold (kR fr M1 M2) Q (b1, b2) 2 [zR 98, zI (l1 + 1)] [] 137 h) : Wp mX12_isTold (kR fr M1 M2) Q (b1, b2) 23 [zR 98, zI l1] [] 137 h := by
  refine s_iinc (x := l1) dX12_isTold_23 rfl rfl (by decide) ?_
  exact s_goto (tgt := 2) dX12_isTold_26 (by decide) kk
theorem bX12_isTold_29 {fr M1 M2 b1 b2 : Nat} {Q : RS → Nat → AH → Prop} {h : AH} {x0 x1 : AV}   (hq : Q (.inl (some (zI 1))) 137 h) : Wp mX12_isTold (kR fr M1 M2) Q (b1, b2) 29 [x0, x1] [] 137 h := by
  refine s_fgt (fgt_n _ (fgt_n _ fgt_0)) ?_
  refine s_iconst dX12_isTold_29 ?_
  exact s_ireturn dX12_isTold_30 ⟨.boolean, rfl, by decide⟩ hq (fun z => by cases z)
theorem dX12_saysBy_0 : decode mX12_saysBy.cd 0 = .ok (.aload_n 0, 1) := by decide +kernel
theorem dX12_saysBy_1 : decode mX12_saysBy.cd 1 = .ok (.iload_n 1, 1) := by decide +kernel
theorem dX12_saysBy_2 : decode mX12_saysBy.cd 2 = .ok (.iload_n 2, 1) := by decide +kernel
theorem dX12_saysBy_3 : decode mX12_saysBy.cd 3 = .ok (.aload_n 0, 1) := by decide +kernel
theorem dX12_saysBy_4 : decode mX12_saysBy.cd 4 = .ok (.getfield 13, 3) := by decide +kernel
theorem dX12_saysBy_7 : decode mX12_saysBy.cd 7 = .ok (.iconst 2, 1) := by decide +kernel
theorem dX12_saysBy_8 : decode mX12_saysBy.cd 8 = .ok (.iload_n 1, 1) := by decide +kernel
theorem dX12_saysBy_9 : decode mX12_saysBy.cd 9 = .ok (.imul, 1) := by decide +kernel
theorem dX12_saysBy_10 : decode mX12_saysBy.cd 10 = .ok (.iaload, 1) := by decide +kernel
theorem dX12_saysBy_11 : decode mX12_saysBy.cd 11 = .ok (.invokevirtual 318, 3) := by decide +kernel
theorem dX12_saysBy_14 : decode mX12_saysBy.cd 14 = .ok (.iconst 1, 1) := by decide +kernel
theorem dX12_saysBy_15 : decode mX12_saysBy.cd 15 = .ok (.istore 5, 2) := by decide +kernel
theorem dX12_saysBy_17 : decode mX12_saysBy.cd 17 = .ok (.iload 5, 2) := by decide +kernel
theorem dX12_saysBy_19 : decode mX12_saysBy.cd 19 = .ok (.bipush 20, 2) := by decide +kernel
theorem dX12_saysBy_21 : decode mX12_saysBy.cd 21 = .ok (.if_icmp .gt 55, 3) := by decide +kernel
theorem dX12_saysBy_24 : decode mX12_saysBy.cd 24 = .ok (.iload_n 3, 1) := by decide +kernel
theorem dX12_saysBy_25 : decode mX12_saysBy.cd 25 = .ok (.iload 5, 2) := by decide +kernel
theorem dX12_saysBy_27 : decode mX12_saysBy.cd 27 = .ok (.iconst 1, 1) := by decide +kernel
theorem dX12_saysBy_28 : decode mX12_saysBy.cd 28 = .ok (.isub, 1) := by decide +kernel
theorem dX12_saysBy_29 : decode mX12_saysBy.cd 29 = .ok (.ishr, 1) := by decide +kernel
theorem dX12_saysBy_30 : decode mX12_saysBy.cd 30 = .ok (.iconst 1, 1) := by decide +kernel
theorem dX12_saysBy_31 : decode mX12_saysBy.cd 31 = .ok (.iand, 1) := by decide +kernel
theorem dX12_saysBy_32 : decode mX12_saysBy.cd 32 = .ok (.iconst 1, 1) := by decide +kernel
theorem dX12_saysBy_33 : decode mX12_saysBy.cd 33 = .ok (.if_icmp .ne 37, 3) := by decide +kernel
theorem dX12_saysBy_36 : decode mX12_saysBy.cd 36 = .ok (.aload_n 0, 1) := by decide +kernel
theorem dX12_saysBy_37 : decode mX12_saysBy.cd 37 = .ok (.iload_n 1, 1) := by decide +kernel
theorem dX12_saysBy_38 : decode mX12_saysBy.cd 38 = .ok (.iload_n 2, 1) := by decide +kernel
theorem dX12_saysBy_39 : decode mX12_saysBy.cd 39 = .ok (.iload 5, 2) := by decide +kernel
theorem dX12_saysBy_41 : decode mX12_saysBy.cd 41 = .ok (.iadd, 1) := by decide +kernel
theorem dX12_saysBy_42 : decode mX12_saysBy.cd 42 = .ok (.aload_n 0, 1) := by decide +kernel
theorem dX12_saysBy_43 : decode mX12_saysBy.cd 43 = .ok (.getfield 13, 3) := by decide +kernel
theorem dX12_saysBy_46 : decode mX12_saysBy.cd 46 = .ok (.iconst 2, 1) := by decide +kernel
theorem dX12_saysBy_47 : decode mX12_saysBy.cd 47 = .ok (.iload_n 1, 1) := by decide +kernel
theorem dX12_saysBy_48 : decode mX12_saysBy.cd 48 = .ok (.imul, 1) := by decide +kernel
theorem dX12_saysBy_49 : decode mX12_saysBy.cd 49 = .ok (.iaload, 1) := by decide +kernel
theorem dX12_saysBy_50 : decode mX12_saysBy.cd 50 = .ok (.iload 4, 2) := by decide +kernel
theorem dX12_saysBy_52 : decode mX12_saysBy.cd 52 = .ok (.imul, 1) := by decide +kernel
theorem dX12_saysBy_53 : decode mX12_saysBy.cd 53 = .ok (.bipush 100, 2) := by decide +kernel
theorem dX12_saysBy_55 : decode mX12_saysBy.cd 55 = .ok (.idiv, 1) := by decide +kernel
theorem dX12_saysBy_56 : decode mX12_saysBy.cd 56 = .ok (.aload_n 0, 1) := by decide +kernel
theorem dX12_saysBy_57 : decode mX12_saysBy.cd 57 = .ok (.getfield 29, 3) := by decide +kernel
theorem dX12_saysBy_60 : decode mX12_saysBy.cd 60 = .ok (.bipush 12, 2) := by decide +kernel
theorem dX12_saysBy_62 : decode mX12_saysBy.cd 62 = .ok (.iaload, 1) := by decide +kernel
theorem dX12_saysBy_63 : decode mX12_saysBy.cd 63 = .ok (.imul, 1) := by decide +kernel
theorem dX12_saysBy_64 : decode mX12_saysBy.cd 64 = .ok (.bipush 100, 2) := by decide +kernel
theorem dX12_saysBy_66 : decode mX12_saysBy.cd 66 = .ok (.idiv, 1) := by decide +kernel
theorem dX12_saysBy_67 : decode mX12_saysBy.cd 67 = .ok (.invokevirtual 318, 3) := by decide +kernel
theorem dX12_saysBy_70 : decode mX12_saysBy.cd 70 = .ok (.iinc 5 1, 3) := by decide +kernel
theorem dX12_saysBy_73 : decode mX12_saysBy.cd 73 = .ok (.goto (-56), 3) := by decide +kernel
theorem dX12_saysBy_76 : decode mX12_saysBy.cd 76 = .ok (.return_, 1) := by decide +kernel
theorem bX12_saysBy_0 {fr M1 M2 b1 b2 : Nat} {Q : RS → Nat → AH → Prop} {h : AH} {l1 l2 l3 l4 : Int} {x5 : AV} {R : AH → Prop}  (r1 : 0 ≤ 2 * l1 ∧ 2 * l1 < 16 := by omega) (hS : Sp mX12_comes true (fr - 1) 0 0 [zR 98, zI l1, zI l2, zI (h 99 (2 * l1))] 137 h (rV R)) (hf : 1 ≤ fr := by omega) (kk : ∀ h' : AH, R h' → Wp mX12_saysBy (kR fr M1 M2) Q (b1, b2) 14 [zR 98, zI l1, zI l2, zI l3, zI l4, none] [] 137 h') : Wp mX12_saysBy (kR fr M1 M2) Q (b1, b2) 0 [zR 98, zI l1, zI l2, zI l3, zI l4, x5] [] 137 h := by
  refine s_fgt (fgt_c (fgt_c (fgt_c (fgt_c (fgt_c (fgt_n _ fgt_0)))))) ?_
  refine s_aload_n (x := 98) dX12_saysBy_0 rfl ?_
  refine s_iload_n (x := l1) dX12_saysBy_1 rfl ?_
  refine s_iload_n (x := l2) dX12_saysBy_2 rfl ?_
  refine s_aload_n (x := 98) dX12_saysBy_3 rfl ?_
  refine s_getFd (c := 98) (d := 99) dX12_saysBy_4 lX12_13 e98 (Or.inl rfl) (by decide) (by decide) ?_
  refine s_iconst dX12_saysBy_7 ?_
  refine s_iload_n (x := l1) dX12_saysBy_8 rfl ?_
  refine s_imul dX12_saysBy_9 ?_
  refine s_iald (c := 99) (i := 2 * l1) dX12_saysBy_10 e99 r1.1 r1.2 ?_
  exact s_callV (as := [zI l1, zI l2, zI (h 99 (2 * l1))]) (st := []) (o := 98) dX12_saysBy_11 kX12_318 rfl ⟨12, 87, TX12, e98, rfl, by decide⟩ rfl rfl (Nat.le_of_ble_eq_true rfl) hS (show fr - 1 + 1 ≤ fr by omega) (Nat.zero_le _) (Nat.zero_le _) (fun v n' h' hP _ => by obtain ⟨e, rfl, hR⟩ := hP; cases e; exact kk h' hR) (fun E n' h' _ z => (rV_nt _ _ _ z).elim)
theorem bX12_saysBy_14 {fr M1 M2 b1 b2 : Nat} {Q : RS → Nat → AH → Prop} {h : AH} {l1 l2 l3 l4 : Int} {x5 : AV}   (kk : Wp mX12_saysBy (kR fr M1 M2) Q (b1, b2) 17 [zR 98, zI l1, zI l2, zI l3, zI l4, zI 1] [] 137 h) : Wp mX12_saysBy (kR fr M1 M2) Q (b1, b2) 14 [zR 98, zI l1, zI l2, zI l3, zI l4, x5] [] 137 h := by
  refine s_fgt (fgt_c (fgt_c (fgt_c (fgt_c (fgt_c (fgt_n _ fgt_0)))))) ?_
  refine s_iconst dX12_saysBy_14 ?_
  refine s_istore dX12_saysBy_15 rfl (by decide) ?_
  exact kk
theorem bX12_saysBy_17 {fr M1 M2 b1 b2 : Nat} {Q : RS → Nat → AH → Prop} {h : AH} {l1 l2 l3 l4 l5 : Int}  (r1 : -2147483648 ≤ l5 ∧ l5 < 2147483648 := by omega) (kt : 20 < l5 → Wp mX12_saysBy (kR fr M1 M2) Q (b1, b2) 76 [zR 98, zI l1, zI l2, zI l3, zI l4, zI l5] [] 137 h) (kf : l5 ≤ 20 → Wp mX12_saysBy (kR fr M1 M2) Q (b1, b2) 24 [zR 98, zI l1, zI l2, zI l3, zI l4, zI l5] [] 137 h) : Wp mX12_saysBy (kR fr M1 M2) Q (b1, b2) 17 [zR 98, zI l1, zI l2, zI l3, zI l4, zI l5] [] 137 h := by
  refine s_iload (x := l5) dX12_saysBy_17 rfl ?_
  refine s_bipush dX12_saysBy_19 (by decide) ?_
  exact s_icmp_gt (tgt := 76) dX12_saysBy_21 (by decide) r1 ⟨by decide, by decide⟩ kt kf
theorem bX12_saysBy_24 {fr M1 M2 b1 b2 : Nat} {Q : RS → Nat → AH → Prop} {h : AH} {l1 l2 l3 l4 l5 : Int}  (r1 : 0 ≤ l5 - 1 ∧ l5 - 1 < 32 := by omega) (r2 : -2147483648 ≤ l3 ∧ l3 < 2147483648 := by omega) (r3 : -2147483648 ≤ bAnd (l3 / 2 ^ (l5 - 1).toNat) 1 ∧ bAnd (l3 / 2 ^ (l5 - 1).toNat) 1 < 2147483648 := by omega) (kt : ¬ bAnd (l3 / 2 ^ (l5 - 1).toNat) 1 = 1 → Wp mX12_saysBy (kR fr M1 M2) Q (b1, b2) 70 [zR 98, zI l1, zI l2, zI l3, zI l4, zI l5] [] 137 h) (kf : bAnd (l3 / 2 ^ (l5 - 1).toNat) 1 = 1 → Wp mX12_saysBy (kR fr M1 M2) Q (b1, b2) 36 [zR 98, zI l1, zI l2, zI l3, zI l4, zI l5] [] 137 h) : Wp mX12_saysBy (kR fr M1 M2) Q (b1, b2) 24 [zR 98, zI l1, zI l2, zI l3, zI l4, zI l5] [] 137 h := by
  refine s_iload_n (x := l3) dX12_saysBy_24 rfl ?_
  refine s_iload (x := l5) dX12_saysBy_25 rfl ?_
  refine s_iconst dX12_saysBy_27 ?_
  refine s_isub dX12_saysBy_28 ?_
  refine s_ishrN dX12_saysBy_29 r2 r1.1 r1.2 ?_
  refine s_iconst dX12_saysBy_30 ?_
  refine s_iand dX12_saysBy_31 ?_
  refine s_iconst dX12_saysBy_32 ?_
  exact s_icmp_ne (tgt := 70) dX12_saysBy_33 (by decide) r3 ⟨by decide, by decide⟩ kt kf
theorem bX12_saysBy_36 {fr M1 M2 b1 b2 : Nat} {Q : RS → Nat → AH → Prop} {h : AH} {l1 l2 l3 l4 l5 : Int} {R : AH → Prop}  (r1 : 0 ≤ 2 * l1 ∧ 2 * l1 < 16 := by omega) (r2 : 0 ≤ (h 99 (2 * l1)) * l4 ∧ (h 99 (2 * l1)) * l4 < 2147483648 := by omega) (r3 : 0 ≤ (((h 99 (2 * l1)) * l4) / 100) * (h 104 12) ∧ (((h 99 (2 * l1)) * l4) / 100) * (h 104 12) < 2147483648 := by omega) (hS : Sp mX12_comes true (fr - 1) 0 0 [zR 98, zI l1, zI (l2 + l5), zI (((((h 99 (2 * l1)) * l4) / 100) * (h 104 12)) / 100)] 137 h (rV R)) (hf : 1 ≤ fr := by omega) (kk : ∀ h' : AH, R h' → Wp mX12_saysBy (kR fr M1 M2) Q (b1, b2) 70 [zR 98, zI l1, zI l2, zI l3, zI l4, zI l5] [] 137 h') : Wp mX12_saysBy (kR fr M1 M2) Q (b1, b2) 36 [zR 98, zI l1, zI l2, zI l3, zI l4, zI l5] [] 137 h := by
  refine s_aload_n (x := 98) dX12_saysBy_36 rfl ?_
  refine s_iload_n (x := l1) dX12_saysBy_37 rfl ?_
  refine s_iload_n (x := l2) dX12_saysBy_38 rfl ?_
  refine s_iload (x := l5) dX12_saysBy_39 rfl ?_
  refine s_iadd dX12_saysBy_41 ?_
  refine s_aload_n (x := 98) dX12_saysBy_42 rfl ?_
  refine s_getFd (c := 98) (d := 99) dX12_saysBy_43 lX12_13 e98 (Or.inl rfl) (by decide) (by decide) ?_
  refine s_iconst dX12_saysBy_46 ?_
  refine s_iload_n (x := l1) dX12_saysBy_47 rfl ?_
  refine s_imul dX12_saysBy_48 ?_
  refine s_iald (c := 99) (i := 2 * l1) dX12_saysBy_49 e99 r1.1 r1.2 ?_
  refine s_iload (x := l4) dX12_saysBy_50 rfl ?_
  refine s_imul dX12_saysBy_52 ?_
  refine s_bipush dX12_saysBy_53 (by decide) ?_
  refine s_idivN dX12_saysBy_55 r2.1 r2.2 (by decide) (by decide) ?_
  refine s_aload_n (x := 98) dX12_saysBy_56 rfl ?_
  refine s_getFd (c := 98) (d := 104) dX12_saysBy_57 lX12_29 e98 (Or.inl rfl) (by decide) (by decide) ?_
  refine s_bipush dX12_saysBy_60 (by decide) ?_
  refine s_iald (c := 104) (i := 12) dX12_saysBy_62 e104 (by decide) (by decide) ?_
  refine s_imul dX12_saysBy_63 ?_
  refine s_bipush dX12_saysBy_64 (by decide) ?_
  refine s_idivN dX12_saysBy_66 r3.1 r3.2 (by decide) (by decide) ?_
  exact s_callV (as := [zI l1, zI (l2 + l5), zI (((((h 99 (2 * l1)) * l4) / 100) * (h 104 12)) / 100)]) (st := []) (o := 98) dX12_saysBy_67 kX12_318 rfl ⟨12, 87, TX12, e98, rfl, by decide⟩ rfl rfl (Nat.le_of_ble_eq_true rfl) hS (show fr - 1 + 1 ≤ fr by omega) (Nat.zero_le _) (Nat.zero_le _) (fun v n' h' hP _ => by obtain ⟨e, rfl, hR⟩ := hP; cases e; exact kk h' hR) (fun E n' h' _ z => (rV_nt _ _ _ z).elim)
theorem bX12_saysBy_70 {fr M1 M2 b1 b2 : Nat} {Q : RS → Nat → AH → Prop} {h : AH} {l1 l2 l3 l4 l5 : Int}   (kk : Wp mX12_saysBy (kR fr M1 M2) Q (b1, b2) 17 [zR 98, zI l1, zI l2, zI l3, zI l4, zI (l5 + 1)] [] 137 h) : Wp mX12_saysBy (kR fr M1 M2) Q (b1, b2) 70 [zR 98, zI l1, zI l2, zI l3, zI l4, zI l5] [] 137 h := by
  refine s_iinc (x := l5) dX12_saysBy_70 rfl rfl (by decide) ?_
  exact s_goto (tgt := 17) dX12_saysBy_73 (by decide) kk
theorem bX12_saysBy_76 {fr M1 M2 b1 b2 : Nat} {Q : RS → Nat → AH → Prop} {h : AH} {x0 x1 x2 x3 x4 x5 : AV}   (hq : Q (.inl none) 137 h) : Wp mX12_saysBy (kR fr M1 M2) Q (b1, b2) 76 [x0, x1, x2, x3, x4, x5] [] 137 h := by
  refine s_fgt (fgt_n _ (fgt_n _ (fgt_n _ (fgt_n _ (fgt_n _ (fgt_n _ fgt_0)))))) ?_
  exact s_return dX12_saysBy_76 rfl hq (fun z => by cases z)
theorem dX12_finds_0 : decode mX12_finds.cd 0 = .ok (.aload_n 0, 1) := by decide +kernel
theorem dX12_finds_1 : decode mX12_finds.cd 1 = .ok (.iconst 0, 1) := by decide +kernel
theorem dX12_finds_2 : decode mX12_finds.cd 2 = .ok (.putfield 427, 3) := by decide +kernel
theorem dX12_finds_5 : decode mX12_finds.cd 5 = .ok (.iconst 0, 1) := by decide +kernel
theorem dX12_finds_6 : decode mX12_finds.cd 6 = .ok (.istore_n 2, 1) := by decide +kernel
theorem dX12_finds_7 : decode mX12_finds.cd 7 = .ok (.iload_n 2, 1) := by decide +kernel
theorem dX12_finds_8 : decode mX12_finds.cd 8 = .ok (.iconst 3, 1) := by decide +kernel
theorem dX12_finds_9 : decode mX12_finds.cd 9 = .ok (.if_icmp .gt 115, 3) := by decide +kernel
theorem dX12_finds_12 : decode mX12_finds.cd 12 = .ok (.iconst 0, 1) := by decide +kernel
theorem dX12_finds_13 : decode mX12_finds.cd 13 = .ok (.istore_n 3, 1) := by decide +kernel
theorem dX12_finds_14 : decode mX12_finds.cd 14 = .ok (.iload_n 3, 1) := by decide +kernel
theorem dX12_finds_15 : decode mX12_finds.cd 15 = .ok (.ldc_w 430, 3) := by decide +kernel
theorem dX12_finds_18 : decode mX12_finds.cd 18 = .ok (.if_icmp .ge 100, 3) := by decide +kernel
theorem dX12_finds_21 : decode mX12_finds.cd 21 = .ok (.iload_n 3, 1) := by decide +kernel
theorem dX12_finds_22 : decode mX12_finds.cd 22 = .ok (.invokestatic 414, 3) := by decide +kernel
theorem dX12_finds_25 : decode mX12_finds.cd 25 = .ok (.iload_n 2, 1) := by decide +kernel
theorem dX12_finds_26 : decode mX12_finds.cd 26 = .ok (.if_icmp .eq 6, 3) := by decide +kernel
theorem dX12_finds_29 : decode mX12_finds.cd 29 = .ok (.goto 80, 3) := by decide +kernel
theorem dX12_finds_32 : decode mX12_finds.cd 32 = .ok (.aload_n 0, 1) := by decide +kernel
theorem dX12_finds_33 : decode mX12_finds.cd 33 = .ok (.bipush 60, 2) := by decide +kernel
theorem dX12_finds_35 : decode mX12_finds.cd 35 = .ok (.iconst 0, 1) := by decide +kernel
theorem dX12_finds_36 : decode mX12_finds.cd 36 = .ok (.bipush 12, 2) := by decide +kernel
theorem dX12_finds_38 : decode mX12_finds.cd 38 = .ok (.invokevirtual 328, 3) := by decide +kernel
theorem dX12_finds_41 : decode mX12_finds.cd 41 = .ok (.iconst 0, 1) := by decide +kernel
theorem dX12_finds_42 : decode mX12_finds.cd 42 = .ok (.istore 4, 2) := by decide +kernel
theorem dX12_finds_44 : decode mX12_finds.cd 44 = .ok (.iload 4, 2) := by decide +kernel
theorem dX12_finds_46 : decode mX12_finds.cd 46 = .ok (.aload_n 0, 1) := by decide +kernel
theorem dX12_finds_47 : decode mX12_finds.cd 47 = .ok (.getfield 289, 3) := by decide +kernel
theorem dX12_finds_50 : decode mX12_finds.cd 50 = .ok (.if_icmp .ge 29, 3) := by decide +kernel
theorem dX12_finds_53 : decode mX12_finds.cd 53 = .ok (.aload_n 0, 1) := by decide +kernel
theorem dX12_finds_54 : decode mX12_finds.cd 54 = .ok (.aload_n 0, 1) := by decide +kernel
theorem dX12_finds_55 : decode mX12_finds.cd 55 = .ok (.getfield 71, 3) := by decide +kernel
theorem dX12_finds_58 : decode mX12_finds.cd 58 = .ok (.iload 4, 2) := by decide +kernel
theorem dX12_finds_60 : decode mX12_finds.cd 60 = .ok (.iaload, 1) := by decide +kernel
theorem dX12_finds_61 : decode mX12_finds.cd 61 = .ok (.aload_n 0, 1) := by decide +kernel
theorem dX12_finds_62 : decode mX12_finds.cd 62 = .ok (.getfield 74, 3) := by decide +kernel
theorem dX12_finds_65 : decode mX12_finds.cd 65 = .ok (.iload 4, 2) := by decide +kernel
theorem dX12_finds_67 : decode mX12_finds.cd 67 = .ok (.iaload, 1) := by decide +kernel
theorem dX12_finds_68 : decode mX12_finds.cd 68 = .ok (.iload_n 3, 1) := by decide +kernel
theorem dX12_finds_69 : decode mX12_finds.cd 69 = .ok (.iload_n 1, 1) := by decide +kernel
theorem dX12_finds_70 : decode mX12_finds.cd 70 = .ok (.invokevirtual 431, 3) := by decide +kernel
theorem dX12_finds_73 : decode mX12_finds.cd 73 = .ok (.iinc 4 1, 3) := by decide +kernel
theorem dX12_finds_76 : decode mX12_finds.cd 76 = .ok (.goto (-32), 3) := by decide +kernel
theorem dX12_finds_79 : decode mX12_finds.cd 79 = .ok (.aload_n 0, 1) := by decide +kernel
theorem dX12_finds_80 : decode mX12_finds.cd 80 = .ok (.invokevirtual 435, 3) := by decide +kernel
theorem dX12_finds_83 : decode mX12_finds.cd 83 = .ok (.ifCond .ne 6, 3) := by decide +kernel
theorem dX12_finds_86 : decode mX12_finds.cd 86 = .ok (.goto 23, 3) := by decide +kernel
theorem dX12_finds_89 : decode mX12_finds.cd 89 = .ok (.aload_n 0, 1) := by decide +kernel
theorem dX12_finds_90 : decode mX12_finds.cd 90 = .ok (.getfield 98, 3) := by decide +kernel
theorem dX12_finds_93 : decode mX12_finds.cd 93 = .ok (.aload_n 0, 1) := by decide +kernel
theorem dX12_finds_94 : decode mX12_finds.cd 94 = .ok (.getfield 427, 3) := by decide +kernel
theorem dX12_finds_97 : decode mX12_finds.cd 97 = .ok (.iload_n 3, 1) := by decide +kernel
theorem dX12_finds_98 : decode mX12_finds.cd 98 = .ok (.iastore, 1) := by decide +kernel
theorem dX12_finds_99 : decode mX12_finds.cd 99 = .ok (.aload_n 0, 1) := by decide +kernel
theorem dX12_finds_100 : decode mX12_finds.cd 100 = .ok (.dup, 1) := by decide +kernel
theorem dX12_finds_101 : decode mX12_finds.cd 101 = .ok (.getfield 427, 3) := by decide +kernel
theorem dX12_finds_104 : decode mX12_finds.cd 104 = .ok (.iconst 1, 1) := by decide +kernel
theorem dX12_finds_105 : decode mX12_finds.cd 105 = .ok (.iadd, 1) := by decide +kernel
theorem dX12_finds_106 : decode mX12_finds.cd 106 = .ok (.putfield 427, 3) := by decide +kernel
theorem dX12_finds_109 : decode mX12_finds.cd 109 = .ok (.iload_n 3, 1) := by decide +kernel
theorem dX12_finds_110 : decode mX12_finds.cd 110 = .ok (.iload_n 2, 1) := by decide +kernel
theorem dX12_finds_111 : decode mX12_finds.cd 111 = .ok (.invokestatic 438, 3) := by decide +kernel
theorem dX12_finds_114 : decode mX12_finds.cd 114 = .ok (.istore_n 3, 1) := by decide +kernel
theorem dX12_finds_115 : decode mX12_finds.cd 115 = .ok (.goto (-101), 3) := by decide +kernel
theorem dX12_finds_118 : decode mX12_finds.cd 118 = .ok (.iinc 2 1, 3) := by decide +kernel
theorem dX12_finds_121 : decode mX12_finds.cd 121 = .ok (.goto (-114), 3) := by decide +kernel
theorem dX12_finds_124 : decode mX12_finds.cd 124 = .ok (.return_, 1) := by decide +kernel
theorem bX12_finds_0 {fr M1 M2 b1 b2 : Nat} {Q : RS → Nat → AH → Prop} {h : AH} {l1 : Int} {x2 x3 x4 : AV}   (kk : Wp mX12_finds (kR fr M1 M2) Q (b1, b2) 7 [zR 98, zI l1, zI 0, none, none] [] 137 (up h 98 72 0)) : Wp mX12_finds (kR fr M1 M2) Q (b1, b2) 0 [zR 98, zI l1, x2, x3, x4] [] 137 h := by
  refine s_fgt (fgt_c (fgt_c (fgt_n _ (fgt_n _ (fgt_n _ fgt_0))))) ?_
  refine s_aload_n (x := 98) dX12_finds_0 rfl ?_
  refine s_iconst dX12_finds_1 ?_
  refine s_put (c := 98) dX12_finds_2 lX12_427 e98 ?_
  refine s_iconst dX12_finds_5 ?_
  refine s_istore_n dX12_finds_6 rfl (by decide) ?_
  exact kk
theorem bX12_finds_7 {fr M1 M2 b1 b2 : Nat} {Q : RS → Nat → AH → Prop} {h : AH} {l1 l2 : Int} {x3 x4 : AV}  (r1 : -2147483648 ≤ l2 ∧ l2 < 2147483648 := by omega) (kt : 3 < l2 → Wp mX12_finds (kR fr M1 M2) Q (b1, b2) 124 [zR 98, zI l1, zI l2, none, none] [] 137 h) (kf : l2 ≤ 3 → Wp mX12_finds (kR fr M1 M2) Q (b1, b2) 12 [zR 98, zI l1, zI l2, none, none] [] 137 h) : Wp mX12_finds (kR fr M1 M2) Q (b1, b2) 7 [zR 98, zI l1, zI l2, x3, x4] [] 137 h := by
  refine s_fgt (fgt_c (fgt_c (fgt_c (fgt_n _ (fgt_n _ fgt_0))))) ?_
  refine s_iload_n (x := l2) dX12_finds_7 rfl ?_
  refine s_iconst dX12_finds_8 ?_
  exact s_icmp_gt (tgt := 124) dX12_finds_9 (by decide) r1 ⟨by decide, by decide⟩ kt kf
theorem bX12_finds_12 {fr M1 M2 b1 b2 : Nat} {Q : RS → Nat → AH → Prop} {h : AH} {l1 l2 : Int} {x3 x4 : AV}   (kk : Wp mX12_finds (kR fr M1 M2) Q (b1, b2) 14 [zR 98, zI l1, zI l2, zI 0, none] [] 137 h) : Wp mX12_finds (kR fr M1 M2) Q (b1, b2) 12 [zR 98, zI l1, zI l2, x3, x4] [] 137 h := by
  refine s_fgt (fgt_c (fgt_c (fgt_c (fgt_n _ (fgt_n _ fgt_0))))) ?_
  refine s_iconst dX12_finds_12 ?_
  refine s_istore_n dX12_finds_13 rfl (by decide) ?_
  exact kk
theorem bX12_finds_14 {fr M1 M2 b1 b2 : Nat} {Q : RS → Nat → AH → Prop} {h : AH} {l1 l2 l3 : Int} {x4 : AV}  (r1 : -2147483648 ≤ l3 ∧ l3 < 2147483648 := by omega) (kt : 1048576 ≤ l3 → Wp mX12_finds (kR fr M1 M2) Q (b1, b2) 118 [zR 98, zI l1, zI l2, zI l3, none] [] 137 h) (kf : l3 < 1048576 → Wp mX12_finds (kR fr M1 M2) Q (b1, b2) 21 [zR 98, zI l1, zI l2, zI l3, none] [] 137 h) : Wp mX12_finds (kR fr M1 M2) Q (b1, b2) 14 [zR 98, zI l1, zI l2, zI l3, x4] [] 137 h := by
  refine s_fgt (fgt_c (fgt_c (fgt_c (fgt_c (fgt_n _ fgt_0))))) ?_
  refine s_iload_n (x := l3) dX12_finds_14 rfl ?_
  refine s_ldc_w (v := 1048576) dX12_finds_15 wd1853 ?_
  exact s_icmp_ge (tgt := 118) dX12_finds_18 (by decide) r1 ⟨by decide, by decide⟩ kt kf
theorem bX12_finds_21 {fr M1 M2 b1 b2 : Nat} {Q : RS → Nat → AH → Prop} {h : AH} {l1 l2 l3 : Int} {x4 : AV} {R : Int → AH → Prop}   (hS : Sp mX12_bits true (fr - 1) 0 0 [zI l3] 137 h (rI R)) (hf : 1 ≤ fr := by omega) (kk : ∀ (x : Int) (h' : AH), R x h' → Wp mX12_finds (kR fr M1 M2) Q (b1, b2) 25 [zR 98, zI l1, zI l2, zI l3, none] [zI x] 137 h') : Wp mX12_finds (kR fr M1 M2) Q (b1, b2) 21 [zR 98, zI l1, zI l2, zI l3, x4] [] 137 h := by
  refine s_fgt (fgt_c (fgt_c (fgt_c (fgt_c (fgt_n _ fgt_0))))) ?_
  refine s_iload_n (x := l3) dX12_finds_21 rfl ?_
  exact s_callS (as := [zI l3]) (st := []) dX12_finds_22 kX12_414 rfl rfl (Nat.le_of_ble_eq_true rfl) hS (show fr - 1 + 1 ≤ fr by omega) (Nat.zero_le _) (Nat.zero_le _) (fun v n' h' hP _ => by obtain ⟨x, e, rfl, hR⟩ := hP; cases e; exact kk x h' hR) (fun E n' h' _ z => (rI_nt _ _ _ z).elim)
theorem bX12_finds_25 {fr M1 M2 b1 b2 : Nat} {Q : RS → Nat → AH → Prop} {h : AH} {l1 l2 l3 s0 : Int} {x4 : AV}  (r1 : -2147483648 ≤ s0 ∧ s0 < 2147483648 := by omega) (r2 : -2147483648 ≤ l2 ∧ l2 < 2147483648 := by omega) (kt : s0 = l2 → Wp mX12_finds (kR fr M1 M2) Q (b1, b2) 32 [zR 98, zI l1, zI l2, zI l3, none] [] 137 h) (kf : ¬ s0 = l2 → Wp mX12_finds (kR fr M1 M2) Q (b1, b2) 29 [zR 98, zI l1, zI l2, zI l3, none] [] 137 h) : Wp mX12_finds (kR fr M1 M2) Q (b1, b2) 25 [zR 98, zI l1, zI l2, zI l3, x4] [zI s0] 137 h := by
  refine s_fgt (fgt_c (fgt_c (fgt_c (fgt_c (fgt_n _ fgt_0))))) ?_
  refine s_iload_n (x := l2) dX12_finds_25 rfl ?_
  exact s_icmp_eq (tgt := 32) dX12_finds_26 (by decide) r1 r2 kt kf
theorem bX12_finds_29 {fr M1 M2 b1 b2 : Nat} {Q : RS → Nat → AH → Prop} {h : AH} {l1 l2 l3 : Int} {x4 : AV}   (kk : Wp mX12_finds (kR fr M1 M2) Q (b1, b2) 109 [zR 98, zI l1, zI l2, zI l3, none] [] 137 h) : Wp mX12_finds (kR fr M1 M2) Q (b1, b2) 29 [zR 98, zI l1, zI l2, zI l3, x4] [] 137 h := by
  refine s_fgt (fgt_c (fgt_c (fgt_c (fgt_c (fgt_n _ fgt_0))))) ?_
  exact s_goto (tgt := 109) dX12_finds_29 (by decide) kk
theorem bX12_finds_32 {fr M1 M2 b1 b2 : Nat} {Q : RS → Nat → AH → Prop} {h : AH} {l1 l2 l3 : Int} {x4 : AV} {R : AH → Prop}   (hS : Sp mX12_opens true (fr - 1) 0 0 [zR 98, zI 60, zI 0, zI 12] 137 h (rV R)) (hf : 1 ≤ fr := by omega) (kk : ∀ h' : AH, R h' → Wp mX12_finds (kR fr M1 M2) Q (b1, b2) 41 [zR 98, zI l1, zI l2, zI l3, none] [] 137 h') : Wp mX12_finds (kR fr M1 M2) Q (b1, b2) 32 [zR 98, zI l1, zI l2, zI l3, x4] [] 137 h := by
  refine s_fgt (fgt_c (fgt_c (fgt_c (fgt_c (fgt_n _ fgt_0))))) ?_
  refine s_aload_n (x := 98) dX12_finds_32 rfl ?_
  refine s_bipush dX12_finds_33 (by decide) ?_
  refine s_iconst dX12_finds_35 ?_
  refine s_bipush dX12_finds_36 (by decide) ?_
  exact s_callV (as := [zI 60, zI 0, zI 12]) (st := []) (o := 98) dX12_finds_38 kX12_328 rfl ⟨12, 87, TX12, e98, rfl, by decide⟩ rfl rfl (Nat.le_of_ble_eq_true rfl) hS (show fr - 1 + 1 ≤ fr by omega) (Nat.zero_le _) (Nat.zero_le _) (fun v n' h' hP _ => by obtain ⟨e, rfl, hR⟩ := hP; cases e; exact kk h' hR) (fun E n' h' _ z => (rV_nt _ _ _ z).elim)
theorem bX12_finds_41 {fr M1 M2 b1 b2 : Nat} {Q : RS → Nat → AH → Prop} {h : AH} {l1 l2 l3 : Int} {x4 : AV}   (kk : Wp mX12_finds (kR fr M1 M2) Q (b1, b2) 44 [zR 98, zI l1, zI l2, zI l3, zI 0] [] 137 h) : Wp mX12_finds (kR fr M1 M2) Q (b1, b2) 41 [zR 98, zI l1, zI l2, zI l3, x4] [] 137 h := by
  refine s_fgt (fgt_c (fgt_c (fgt_c (fgt_c (fgt_n _ fgt_0))))) ?_
  refine s_iconst dX12_finds_41 ?_
  refine s_istore dX12_finds_42 rfl (by decide) ?_
  exact kk
theorem bX12_finds_44 {fr M1 M2 b1 b2 : Nat} {Q : RS → Nat → AH → Prop} {h : AH} {l1 l2 l3 l4 : Int}  (r1 : -2147483648 ≤ l4 ∧ l4 < 2147483648 := by omega) (r2 : -2147483648 ≤ h 98 50 ∧ h 98 50 < 2147483648 := by omega) (kt : h 98 50 ≤ l4 → Wp mX12_finds (kR fr M1 M2) Q (b1, b2) 79 [zR 98, zI l1, zI l2, zI l3, zI l4] [] 137 h) (kf : l4 < h 98 50 → Wp mX12_finds (kR fr M1 M2) Q (b1, b2) 53 [zR 98, zI l1, zI l2, zI l3, zI l4] [] 137 h) : Wp mX12_finds (kR fr M1 M2) Q (b1, b2) 44 [zR 98, zI l1, zI l2, zI l3, zI l4] [] 137 h := by
  refine s_iload (x := l4) dX12_finds_44 rfl ?_
  refine s_aload_n (x := 98) dX12_finds_46 rfl ?_
  refine s_get (c := 98) dX12_finds_47 lX12_289 e98 (by decide) ?_
  exact s_icmp_ge (tgt := 79) dX12_finds_50 (by decide) r1 r2 kt kf
theorem bX12_finds_53 {fr M1 M2 b1 b2 : Nat} {Q : RS → Nat → AH → Prop} {h : AH} {l1 l2 l3 l4 : Int} {R : AH → Prop}  (r1 : 0 ≤ l4 ∧ l4 < 200 := by omega) (hS : Sp mX12_saysBy true (fr - 1) 0 0 [zR 98, zI (h 116 l4), zI (h 117 l4), zI l3, zI l1] 137 h (rV R)) (hf : 1 ≤ fr := by omega) (kk : ∀ h' : AH, R h' → Wp mX12_finds (kR fr M1 M2) Q (b1, b2) 73 [zR 98, zI l1, zI l2, zI l3, zI l4] [] 137 h') : Wp mX12_finds (kR fr M1 M2) Q (b1, b2) 53 [zR 98, zI l1, zI l2, zI l3, zI l4] [] 137 h := by
  refine s_aload_n (x := 98) dX12_finds_53 rfl ?_
  refine s_aload_n (x := 98) dX12_finds_54 rfl ?_
  refine s_getFd (c := 98) (d := 116) dX12_finds_55 lX12_71 e98 (Or.inl rfl) (by decide) (by decide) ?_
  refine s_iload (x := l4) dX12_finds_58 rfl ?_
  refine s_iald (c := 116) (i := l4) dX12_finds_60 e116 r1.1 r1.2 ?_
  refine s_aload_n (x := 98) dX12_finds_61 rfl ?_
  refine s_getFd (c := 98) (d := 117) dX12_finds_62 lX12_74 e98 (Or.inl rfl) (by decide) (by decide) ?_
  refine s_iload (x := l4) dX12_finds_65 rfl ?_
  refine s_iald (c := 117) (i := l4) dX12_finds_67 e117 r1.1 r1.2 ?_
  refine s_iload_n (x := l3) dX12_finds_68 rfl ?_
  refine s_iload_n (x := l1) dX12_finds_69 rfl ?_
  exact s_callV (as := [zI (h 116 l4), zI (h 117 l4), zI l3, zI l1]) (st := []) (o := 98) dX12_finds_70 kX12_431 rfl ⟨12, 87, TX12, e98, rfl, by decide⟩ rfl rfl (Nat.le_of_ble_eq_true rfl) hS (show fr - 1 + 1 ≤ fr by omega) (Nat.zero_le _) (Nat.zero_le _) (fun v n' h' hP _ => by obtain ⟨e, rfl, hR⟩ := hP; cases e; exact kk h' hR) (fun E n' h' _ z => (rV_nt _ _ _ z).elim)
theorem bX12_finds_73 {fr M1 M2 b1 b2 : Nat} {Q : RS → Nat → AH → Prop} {h : AH} {l1 l2 l3 l4 : Int}   (kk : Wp mX12_finds (kR fr M1 M2) Q (b1, b2) 44 [zR 98, zI l1, zI l2, zI l3, zI (l4 + 1)] [] 137 h) : Wp mX12_finds (kR fr M1 M2) Q (b1, b2) 73 [zR 98, zI l1, zI l2, zI l3, zI l4] [] 137 h := by
  refine s_iinc (x := l4) dX12_finds_73 rfl rfl (by decide) ?_
  exact s_goto (tgt := 44) dX12_finds_76 (by decide) kk
theorem bX12_finds_79 {fr M1 M2 b1 b2 : Nat} {Q : RS → Nat → AH → Prop} {h : AH} {l1 l2 l3 : Int} {x4 : AV} {R : Int → AH → Prop}   (hS : Sp mX12_isTold true (fr - 1) 0 0 [zR 98] 137 h (rI R)) (hf : 1 ≤ fr := by omega) (kk : ∀ (x : Int) (h' : AH), R x h' → Wp mX12_finds (kR fr M1 M2) Q (b1, b2) 83 [zR 98, zI l1, zI l2, zI l3, none] [zI x] 137 h') : Wp mX12_finds (kR fr M1 M2) Q (b1, b2) 79 [zR 98, zI l1, zI l2, zI l3, x4] [] 137 h := by
  refine s_fgt (fgt_c (fgt_c (fgt_c (fgt_c (fgt_n _ fgt_0))))) ?_
  refine s_aload_n (x := 98) dX12_finds_79 rfl ?_
  exact s_callV (as := []) (st := []) (o := 98) dX12_finds_80 kX12_435 rfl ⟨12, 87, TX12, e98, rfl, by decide⟩ rfl rfl (Nat.le_of_ble_eq_true rfl) hS (show fr - 1 + 1 ≤ fr by omega) (Nat.zero_le _) (Nat.zero_le _) (fun v n' h' hP _ => by obtain ⟨x, e, rfl, hR⟩ := hP; cases e; exact kk x h' hR) (fun E n' h' _ z => (rI_nt _ _ _ z).elim)
theorem bX12_finds_83 {fr M1 M2 b1 b2 : Nat} {Q : RS → Nat → AH → Prop} {h : AH} {l1 l2 l3 s0 : Int} {x4 : AV}  (r1 : -2147483648 ≤ s0 ∧ s0 < 2147483648 := by omega) (kt : ¬ s0 = 0 → Wp mX12_finds (kR fr M1 M2) Q (b1, b2) 89 [zR 98, zI l1, zI l2, zI l3, none] [] 137 h) (kf : s0 = 0 → Wp mX12_finds (kR fr M1 M2) Q (b1, b2) 86 [zR 98, zI l1, zI l2, zI l3, none] [] 137 h) : Wp mX12_finds (kR fr M1 M2) Q (b1, b2) 83 [zR 98, zI l1, zI l2, zI l3, x4] [zI s0] 137 h := by
  refine s_fgt (fgt_c (fgt_c (fgt_c (fgt_c (fgt_n _ fgt_0))))) ?_
  exact s_if_ne (tgt := 89) dX12_finds_83 (by decide) r1 kt kf
theorem bX12_finds_86 {fr M1 M2 b1 b2 : Nat} {Q : RS → Nat → AH → Prop} {h : AH} {l1 l2 l3 : Int} {x4 : AV}   (kk : Wp mX12_finds (kR fr M1 M2) Q (b1, b2) 109 [zR 98, zI l1, zI l2, zI l3, none] [] 137 h) : Wp mX12_finds (kR fr M1 M2) Q (b1, b2) 86 [zR 98, zI l1, zI l2, zI l3, x4] [] 137 h := by
  refine s_fgt (fgt_c (fgt_c (fgt_c (fgt_c (fgt_n _ fgt_0))))) ?_
  exact s_goto (tgt := 109) dX12_finds_86 (by decide) kk
theorem bX12_finds_89 {fr M1 M2 b1 b2 : Nat} {Q : RS → Nat → AH → Prop} {h : AH} {l1 l2 l3 : Int} {x4 : AV}  (r1 : 0 ≤ h 98 72 ∧ h 98 72 < 1351 := by omega) (kk : Wp mX12_finds (kR fr M1 M2) Q (b1, b2) 109 [zR 98, zI l1, zI l2, zI l3, none] [] 137 (up (up h 125 (h 98 72) l3) 98 72 ((h 98 72) + 1))) : Wp mX12_finds (kR fr M1 M2) Q (b1, b2) 89 [zR 98, zI l1, zI l2, zI l3, x4] [] 137 h := by
  refine s_fgt (fgt_c (fgt_c (fgt_c (fgt_c (fgt_n _ fgt_0))))) ?_
  refine s_aload_n (x := 98) dX12_finds_89 rfl ?_
  refine s_getFd (c := 98) (d := 125) dX12_finds_90 lX12_98 e98 (Or.inl rfl) (by decide) (by decide) ?_
  refine s_aload_n (x := 98) dX12_finds_93 rfl ?_
  refine s_get (c := 98) dX12_finds_94 lX12_427 e98 (by decide) ?_
  refine s_iload_n (x := l3) dX12_finds_97 rfl ?_
  refine s_iast (c := 125) (i := h 98 72) dX12_finds_98 e125 r1.1 r1.2 ?_
  refine s_aload_n (x := 98) dX12_finds_99 rfl ?_
  refine s_dup dX12_finds_100 rfl ?_
  refine s_get (c := 98) dX12_finds_101 lX12_427 e98 (by decide) ?_
  refine s_iconst dX12_finds_104 ?_
  refine s_iadd dX12_finds_105 ?_
  refine s_put (c := 98) dX12_finds_106 lX12_427 e98 ?_
  exact kk
theorem bX12_finds_109 {fr M1 M2 b1 b2 : Nat} {Q : RS → Nat → AH → Prop} {h : AH} {l1 l2 l3 : Int} {x4 : AV} {R : Int → AH → Prop}   (hS : Sp mX12_next0 true (fr - 1) 0 0 [zI l3, zI l2] 137 h (rI R)) (hf : 1 ≤ fr := by omega) (kk : ∀ (x : Int) (h' : AH), R x h' → Wp mX12_finds (kR fr M1 M2) Q (b1, b2) 114 [zR 98, zI l1, zI l2, zI l3, none] [zI x] 137 h') : Wp mX12_finds (kR fr M1 M2) Q (b1, b2) 109 [zR 98, zI l1, zI l2, zI l3, x4] [] 137 h := by
  refine s_fgt (fgt_c (fgt_c (fgt_c (fgt_c (fgt_n _ fgt_0))))) ?_
  refine s_iload_n (x := l3) dX12_finds_109 rfl ?_
  refine s_iload_n (x := l2) dX12_finds_110 rfl ?_
  exact s_callS (as := [zI l3, zI l2]) (st := []) dX12_finds_111 kX12_438 rfl rfl (Nat.le_of_ble_eq_true rfl) hS (show fr - 1 + 1 ≤ fr by omega) (Nat.zero_le _) (Nat.zero_le _) (fun v n' h' hP _ => by obtain ⟨x, e, rfl, hR⟩ := hP; cases e; exact kk x h' hR) (fun E n' h' _ z => (rI_nt _ _ _ z).elim)
theorem bX12_finds_114 {fr M1 M2 b1 b2 : Nat} {Q : RS → Nat → AH → Prop} {h : AH} {l1 l2 s0 : Int} {x3 x4 : AV}   (kk : Wp mX12_finds (kR fr M1 M2) Q (b1, b2) 14 [zR 98, zI l1, zI l2, zI s0, none] [] 137 h) : Wp mX12_finds (kR fr M1 M2) Q (b1, b2) 114 [zR 98, zI l1, zI l2, x3, x4] [zI s0] 137 h := by
  refine s_fgt (fgt_c (fgt_c (fgt_c (fgt_n _ (fgt_n _ fgt_0))))) ?_
  refine s_istore_n dX12_finds_114 rfl (by decide) ?_
  exact s_goto (tgt := 14) dX12_finds_115 (by decide) kk
theorem bX12_finds_118 {fr M1 M2 b1 b2 : Nat} {Q : RS → Nat → AH → Prop} {h : AH} {l1 l2 : Int} {x3 x4 : AV}   (kk : Wp mX12_finds (kR fr M1 M2) Q (b1, b2) 7 [zR 98, zI l1, zI (l2 + 1), none, none] [] 137 h) : Wp mX12_finds (kR fr M1 M2) Q (b1, b2) 118 [zR 98, zI l1, zI l2, x3, x4] [] 137 h := by
  refine s_fgt (fgt_c (fgt_c (fgt_c (fgt_n _ (fgt_n _ fgt_0))))) ?_
  refine s_iinc (x := l2) dX12_finds_118 rfl rfl (by decide) ?_
  exact s_goto (tgt := 7) dX12_finds_121 (by decide) kk
theorem bX12_finds_124 {fr M1 M2 b1 b2 : Nat} {Q : RS → Nat → AH → Prop} {h : AH} {x0 x1 x2 x3 x4 : AV}   (hq : Q (.inl none) 137 h) : Wp mX12_finds (kR fr M1 M2) Q (b1, b2) 124 [x0, x1, x2, x3, x4] [] 137 h := by
  refine s_fgt (fgt_n _ (fgt_n _ (fgt_n _ (fgt_n _ (fgt_n _ fgt_0))))) ?_
  exact s_return dX12_finds_124 rfl hq (fun z => by cases z)
theorem dX12_next0_0 : decode mX12_next0.cd 0 = .ok (.iload_n 0, 1) := by decide +kernel
theorem dX12_next0_1 : decode mX12_next0.cd 1 = .ok (.ifCond .ne 19, 3) := by decide +kernel
theorem dX12_next0_4 : decode mX12_next0.cd 4 = .ok (.iload_n 1, 1) := by decide +kernel
theorem dX12_next0_5 : decode mX12_next0.cd 5 = .ok (.ifCond .ne 9, 3) := by decide +kernel
theorem dX12_next0_8 : decode mX12_next0.cd 8 = .ok (.ldc_w 430, 3) := by decide +kernel
theorem dX12_next0_11 : decode mX12_next0.cd 11 = .ok (.goto 8, 3) := by decide +kernel
theorem dX12_next0_14 : decode mX12_next0.cd 14 = .ok (.iconst 1, 1) := by decide +kernel
theorem dX12_next0_15 : decode mX12_next0.cd 15 = .ok (.iload_n 1, 1) := by decide +kernel
theorem dX12_next0_16 : decode mX12_next0.cd 16 = .ok (.ishl, 1) := by decide +kernel
theorem dX12_next0_17 : decode mX12_next0.cd 17 = .ok (.iconst 1, 1) := by decide +kernel
theorem dX12_next0_18 : decode mX12_next0.cd 18 = .ok (.isub, 1) := by decide +kernel
theorem dX12_next0_19 : decode mX12_next0.cd 19 = .ok (.ireturn, 1) := by decide +kernel
theorem dX12_next0_20 : decode mX12_next0.cd 20 = .ok (.iload_n 0, 1) := by decide +kernel
theorem dX12_next0_21 : decode mX12_next0.cd 21 = .ok (.iload_n 0, 1) := by decide +kernel
theorem dX12_next0_22 : decode mX12_next0.cd 22 = .ok (.ineg, 1) := by decide +kernel
theorem dX12_next0_23 : decode mX12_next0.cd 23 = .ok (.iand, 1) := by decide +kernel
theorem dX12_next0_24 : decode mX12_next0.cd 24 = .ok (.istore_n 2, 1) := by decide +kernel
theorem dX12_next0_25 : decode mX12_next0.cd 25 = .ok (.iload_n 0, 1) := by decide +kernel
theorem dX12_next0_26 : decode mX12_next0.cd 26 = .ok (.iload_n 2, 1) := by decide +kernel
theorem dX12_next0_27 : decode mX12_next0.cd 27 = .ok (.iadd, 1) := by decide +kernel
theorem dX12_next0_28 : decode mX12_next0.cd 28 = .ok (.istore_n 3, 1) := by decide +kernel
theorem dX12_next0_29 : decode mX12_next0.cd 29 = .ok (.iload_n 0, 1) := by decide +kernel
theorem dX12_next0_30 : decode mX12_next0.cd 30 = .ok (.iload_n 3, 1) := by decide +kernel
theorem dX12_next0_31 : decode mX12_next0.cd 31 = .ok (.ixor, 1) := by decide +kernel
theorem dX12_next0_32 : decode mX12_next0.cd 32 = .ok (.istore 4, 2) := by decide +kernel
theorem dX12_next0_34 : decode mX12_next0.cd 34 = .ok (.iconst 0, 1) := by decide +kernel
theorem dX12_next0_35 : decode mX12_next0.cd 35 = .ok (.istore 5, 2) := by decide +kernel
theorem dX12_next0_37 : decode mX12_next0.cd 37 = .ok (.iload 4, 2) := by decide +kernel
theorem dX12_next0_39 : decode mX12_next0.cd 39 = .ok (.iconst 1, 1) := by decide +kernel
theorem dX12_next0_40 : decode mX12_next0.cd 40 = .ok (.iand, 1) := by decide +kernel
theorem dX12_next0_41 : decode mX12_next0.cd 41 = .ok (.ifCond .ne 12, 3) := by decide +kernel
theorem dX12_next0_44 : decode mX12_next0.cd 44 = .ok (.iload 4, 2) := by decide +kernel
theorem dX12_next0_46 : decode mX12_next0.cd 46 = .ok (.iconst 1, 1) := by decide +kernel
theorem dX12_next0_47 : decode mX12_next0.cd 47 = .ok (.ishr, 1) := by decide +kernel
theorem dX12_next0_48 : decode mX12_next0.cd 48 = .ok (.istore 4, 2) := by decide +kernel
theorem dX12_next0_50 : decode mX12_next0.cd 50 = .ok (.goto (-13), 3) := by decide +kernel
theorem dX12_next0_53 : decode mX12_next0.cd 53 = .ok (.iload 4, 2) := by decide +kernel
theorem dX12_next0_55 : decode mX12_next0.cd 55 = .ok (.ifCond .eq 15, 3) := by decide +kernel
theorem dX12_next0_58 : decode mX12_next0.cd 58 = .ok (.iinc 5 1, 3) := by decide +kernel
theorem dX12_next0_61 : decode mX12_next0.cd 61 = .ok (.iload 4, 2) := by decide +kernel
theorem dX12_next0_63 : decode mX12_next0.cd 63 = .ok (.iconst 1, 1) := by decide +kernel
theorem dX12_next0_64 : decode mX12_next0.cd 64 = .ok (.ishr, 1) := by decide +kernel
theorem dX12_next0_65 : decode mX12_next0.cd 65 = .ok (.istore 4, 2) := by decide +kernel
theorem dX12_next0_67 : decode mX12_next0.cd 67 = .ok (.goto (-14), 3) := by decide +kernel
theorem dX12_next0_70 : decode mX12_next0.cd 70 = .ok (.iload_n 3, 1) := by decide +kernel
theorem dX12_next0_71 : decode mX12_next0.cd 71 = .ok (.iconst 1, 1) := by decide +kernel
theorem dX12_next0_72 : decode mX12_next0.cd 72 = .ok (.iload 5, 2) := by decide +kernel
theorem dX12_next0_74 : decode mX12_next0.cd 74 = .ok (.iconst 2, 1) := by decide +kernel
theorem dX12_next0_75 : decode mX12_next0.cd 75 = .ok (.isub, 1) := by decide +kernel
theorem dX12_next0_76 : decode mX12_next0.cd 76 = .ok (.ishl, 1) := by decide +kernel
theorem dX12_next0_77 : decode mX12_next0.cd 77 = .ok (.iconst 1, 1) := by decide +kernel
theorem dX12_next0_78 : decode mX12_next0.cd 78 = .ok (.isub, 1) := by decide +kernel
theorem dX12_next0_79 : decode mX12_next0.cd 79 = .ok (.ior, 1) := by decide +kernel
theorem dX12_next0_80 : decode mX12_next0.cd 80 = .ok (.ireturn, 1) := by decide +kernel
theorem bX12_next0_0 {fr M1 M2 b1 b2 : Nat} {Q : RS → Nat → AH → Prop} {h : AH} {l0 l1 : Int} {x2 x3 x4 x5 : AV}  (r1 : -2147483648 ≤ l0 ∧ l0 < 2147483648 := by omega) (kt : ¬ l0 = 0 → Wp mX12_next0 (kR fr M1 M2) Q (b1, b2) 20 [zI l0, zI l1, none, none, none, none] [] 137 h) (kf : l0 = 0 → Wp mX12_next0 (kR fr M1 M2) Q (b1, b2) 4 [zI l0, zI l1, none, none, none, none] [] 137 h) : Wp mX12_next0 (kR fr M1 M2) Q (b1, b2) 0 [zI l0, zI l1, x2, x3, x4, x5] [] 137 h := by
  refine s_fgt (fgt_c (fgt_c (fgt_n _ (fgt_n _ (fgt_n _ (fgt_n _ fgt_0)))))) ?_
  refine s_iload_n (x := l0) dX12_next0_0 rfl ?_
  exact s_if_ne (tgt := 20) dX12_next0_1 (by decide) r1 kt kf
theorem bX12_next0_4 {fr M1 M2 b1 b2 : Nat} {Q : RS → Nat → AH → Prop} {h : AH} {l1 : Int} {x0 x2 x3 x4 x5 : AV}  (r1 : -2147483648 ≤ l1 ∧ l1 < 2147483648 := by omega) (kt : ¬ l1 = 0 → Wp mX12_next0 (kR fr M1 M2) Q (b1, b2) 14 [none, zI l1, none, none, none, none] [] 137 h) (kf : l1 = 0 → Wp mX12_next0 (kR fr M1 M2) Q (b1, b2) 8 [none, zI l1, none, none, none, none] [] 137 h) : Wp mX12_next0 (kR fr M1 M2) Q (b1, b2) 4 [x0, zI l1, x2, x3, x4, x5] [] 137 h := by
  refine s_fgt (fgt_n _ (fgt_c (fgt_n _ (fgt_n _ (fgt_n _ (fgt_n _ fgt_0)))))) ?_
  refine s_iload_n (x := l1) dX12_next0_4 rfl ?_
  exact s_if_ne (tgt := 14) dX12_next0_5 (by decide) r1 kt kf
theorem bX12_next0_8 {fr M1 M2 b1 b2 : Nat} {Q : RS → Nat → AH → Prop} {h : AH} {x0 x1 x2 x3 x4 x5 : AV}   (kk : Wp mX12_next0 (kR fr M1 M2) Q (b1, b2) 19 [none, none, none, none, none, none] [zI 1048576] 137 h) : Wp mX12_next0 (kR fr M1 M2) Q (b1, b2) 8 [x0, x1, x2, x3, x4, x5] [] 137 h := by
  refine s_fgt (fgt_n _ (fgt_n _ (fgt_n _ (fgt_n _ (fgt_n _ (fgt_n _ fgt_0)))))) ?_
  refine s_ldc_w (v := 1048576) dX12_next0_8 wd1853 ?_
  exact s_goto (tgt := 19) dX12_next0_11 (by decide) kk
theorem bX12_next0_14 {fr M1 M2 b1 b2 : Nat} {Q : RS → Nat → AH → Prop} {h : AH} {l1 : Int} {x0 x2 x3 x4 x5 : AV}  (r1 : 0 ≤ l1 ∧ l1 < 32 := by omega) (kk : Wp mX12_next0 (kR fr M1 M2) Q (b1, b2) 19 [none, zI l1, none, none, none, none] [zI ((1 * 2 ^ l1.toNat) - 1)] 137 h) : Wp mX12_next0 (kR fr M1 M2) Q (b1, b2) 14 [x0, zI l1, x2, x3, x4, x5] [] 137 h := by
  refine s_fgt (fgt_n _ (fgt_c (fgt_n _ (fgt_n _ (fgt_n _ (fgt_n _ fgt_0)))))) ?_
  refine s_iconst dX12_next0_14 ?_
  refine s_iload_n (x := l1) dX12_next0_15 rfl ?_
  refine s_ishlN dX12_next0_16 r1.1 r1.2 ?_
  refine s_iconst dX12_next0_17 ?_
  refine s_isub dX12_next0_18 ?_
  exact kk
theorem bX12_next0_19 {fr M1 M2 b1 b2 : Nat} {Q : RS → Nat → AH → Prop} {h : AH} {s0 : Int} {x0 x1 x2 x3 x4 x5 : AV}   (hq : Q (.inl (some (zI s0))) 137 h) : Wp mX12_next0 (kR fr M1 M2) Q (b1, b2) 19 [x0, x1, x2, x3, x4, x5] [zI s0] 137 h := by
  refine s_fgt (fgt_n _ (fgt_n _ (fgt_n _ (fgt_n _ (fgt_n _ (fgt_n _ fgt_0)))))) ?_
  exact s_ireturn dX12_next0_19 ⟨.int, rfl, rfl⟩ hq (fun z => by cases z)
theorem bX12_next0_20 {fr M1 M2 b1 b2 : Nat} {Q : RS → Nat → AH → Prop} {h : AH} {l0 : Int} {x1 x2 x3 x4 x5 : AV}   (kk : Wp mX12_next0 (kR fr M1 M2) Q (b1, b2) 37 [zI l0, none, zI (bAnd l0 (0 - l0)), zI (l0 + (bAnd l0 (0 - l0))), zI (bXor l0 (l0 + (bAnd l0 (0 - l0)))), zI 0] [] 137 h) : Wp mX12_next0 (kR fr M1 M2) Q (b1, b2) 20 [zI l0, x1, x2, x3, x4, x5] [] 137 h := by
  refine s_fgt (fgt_c (fgt_n _ (fgt_n _ (fgt_n _ (fgt_n _ (fgt_n _ fgt_0)))))) ?_
  refine s_iload_n (x := l0) dX12_next0_20 rfl ?_
  refine s_iload_n (x := l0) dX12_next0_21 rfl ?_
  refine s_ineg dX12_next0_22 ?_
  refine s_iand dX12_next0_23 ?_
  refine s_istore_n dX12_next0_24 rfl (by decide) ?_
  refine s_iload_n (x := l0) dX12_next0_25 rfl ?_
  refine s_iload_n (x := bAnd l0 (0 - l0)) dX12_next0_26 rfl ?_
  refine s_iadd dX12_next0_27 ?_
  refine s_istore_n dX12_next0_28 rfl (by decide) ?_
  refine s_iload_n (x := l0) dX12_next0_29 rfl ?_
  refine s_iload_n (x := l0 + (bAnd l0 (0 - l0))) dX12_next0_30 rfl ?_
  refine s_ixor dX12_next0_31 ?_
  refine s_istore dX12_next0_32 rfl (by decide) ?_
  refine s_iconst dX12_next0_34 ?_
  refine s_istore dX12_next0_35 rfl (by decide) ?_
  exact kk
theorem bX12_next0_37 {fr M1 M2 b1 b2 : Nat} {Q : RS → Nat → AH → Prop} {h : AH} {l3 l4 l5 : Int} {x0 x1 x2 : AV}  (r1 : -2147483648 ≤ bAnd l4 1 ∧ bAnd l4 1 < 2147483648 := by omega) (kt : ¬ bAnd l4 1 = 0 → Wp mX12_next0 (kR fr M1 M2) Q (b1, b2) 53 [none, none, none, zI l3, zI l4, zI l5] [] 137 h) (kf : bAnd l4 1 = 0 → Wp mX12_next0 (kR fr M1 M2) Q (b1, b2) 44 [none, none, none, zI l3, zI l4, zI l5] [] 137 h) : Wp mX12_next0 (kR fr M1 M2) Q (b1, b2) 37 [x0, x1, x2, zI l3, zI l4, zI l5] [] 137 h := by
  refine s_fgt (fgt_n _ (fgt_n _ (fgt_n _ (fgt_c (fgt_c (fgt_c fgt_0)))))) ?_
  refine s_iload (x := l4) dX12_next0_37 rfl ?_
  refine s_iconst dX12_next0_39 ?_
  refine s_iand dX12_next0_40 ?_
  exact s_if_ne (tgt := 53) dX12_next0_41 (by decide) r1 kt kf
theorem bX12_next0_44 {fr M1 M2 b1 b2 : Nat} {Q : RS → Nat → AH → Prop} {h : AH} {l3 l4 l5 : Int} {x0 x1 x2 : AV}  (r1 : -2147483648 ≤ l4 ∧ l4 < 2147483648 := by omega) (kk : Wp mX12_next0 (kR fr M1 M2) Q (b1, b2) 37 [none, none, none, zI l3, zI (l4 / 2 ^ (1 : Int).toNat), zI l5] [] 137 h) : Wp mX12_next0 (kR fr M1 M2) Q (b1, b2) 44 [x0, x1, x2, zI l3, zI l4, zI l5] [] 137 h := by
  refine s_fgt (fgt_n _ (fgt_n _ (fgt_n _ (fgt_c (fgt_c (fgt_c fgt_0)))))) ?_
  refine s_iload (x := l4) dX12_next0_44 rfl ?_
  refine s_iconst dX12_next0_46 ?_
  refine s_ishrN dX12_next0_47 r1 (by decide) (by decide) ?_
  refine s_istore dX12_next0_48 rfl (by decide) ?_
  exact s_goto (tgt := 37) dX12_next0_50 (by decide) kk
theorem bX12_next0_53 {fr M1 M2 b1 b2 : Nat} {Q : RS → Nat → AH → Prop} {h : AH} {l3 l4 l5 : Int} {x0 x1 x2 : AV}  (r1 : -2147483648 ≤ l4 ∧ l4 < 2147483648 := by omega) (kt : l4 = 0 → Wp mX12_next0 (kR fr M1 M2) Q (b1, b2) 70 [none, none, none, zI l3, zI l4, zI l5] [] 137 h) (kf : ¬ l4 = 0 → Wp mX12_next0 (kR fr M1 M2) Q (b1, b2) 58 [none, none, none, zI l3, zI l4, zI l5] [] 137 h) : Wp mX12_next0 (kR fr M1 M2) Q (b1, b2) 53 [x0, x1, x2, zI l3, zI l4, zI l5] [] 137 h := by
  refine s_fgt (fgt_n _ (fgt_n _ (fgt_n _ (fgt_c (fgt_c (fgt_c fgt_0)))))) ?_
  refine s_iload (x := l4) dX12_next0_53 rfl ?_
  exact s_if_eq (tgt := 70) dX12_next0_55 (by decide) r1 kt kf
theorem bX12_next0_58 {fr M1 M2 b1 b2 : Nat} {Q : RS → Nat → AH → Prop} {h : AH} {l3 l4 l5 : Int} {x0 x1 x2 : AV}  (r1 : -2147483648 ≤ l4 ∧ l4 < 2147483648 := by omega) (kk : Wp mX12_next0 (kR fr M1 M2) Q (b1, b2) 53 [none, none, none, zI l3, zI (l4 / 2 ^ (1 : Int).toNat), zI (l5 + 1)] [] 137 h) : Wp mX12_next0 (kR fr M1 M2) Q (b1, b2) 58 [x0, x1, x2, zI l3, zI l4, zI l5] [] 137 h := by
  refine s_fgt (fgt_n _ (fgt_n _ (fgt_n _ (fgt_c (fgt_c (fgt_c fgt_0)))))) ?_
  refine s_iinc (x := l5) dX12_next0_58 rfl rfl (by decide) ?_
  refine s_iload (x := l4) dX12_next0_61 rfl ?_
  refine s_iconst dX12_next0_63 ?_
  refine s_ishrN dX12_next0_64 r1 (by decide) (by decide) ?_
  refine s_istore dX12_next0_65 rfl (by decide) ?_
  exact s_goto (tgt := 53) dX12_next0_67 (by decide) kk
theorem bX12_next0_70 {fr M1 M2 b1 b2 : Nat} {Q : RS → Nat → AH → Prop} {h : AH} {l3 l5 : Int} {x0 x1 x2 x4 : AV}  (r1 : 0 ≤ l5 - 2 ∧ l5 - 2 < 32 := by omega) (hq : Q (.inl (some (zI (bOr l3 ((1 * 2 ^ (l5 - 2).toNat) - 1))))) 137 h) : Wp mX12_next0 (kR fr M1 M2) Q (b1, b2) 70 [x0, x1, x2, zI l3, x4, zI l5] [] 137 h := by
  refine s_fgt (fgt_n _ (fgt_n _ (fgt_n _ (fgt_c (fgt_n _ (fgt_c fgt_0)))))) ?_
  refine s_iload_n (x := l3) dX12_next0_70 rfl ?_
  refine s_iconst dX12_next0_71 ?_
  refine s_iload (x := l5) dX12_next0_72 rfl ?_
  refine s_iconst dX12_next0_74 ?_
  refine s_isub dX12_next0_75 ?_
  refine s_ishlN dX12_next0_76 r1.1 r1.2 ?_
  refine s_iconst dX12_next0_77 ?_
  refine s_isub dX12_next0_78 ?_
  refine s_ior dX12_next0_79 ?_
  exact s_ireturn dX12_next0_80 ⟨.int, rfl, rfl⟩ hq (fun z => by cases z)
theorem dX12_group_0 : decode mX12_group.cd 0 = .ok (.iconst 0, 1) := by decide +kernel
theorem dX12_group_1 : decode mX12_group.cd 1 = .ok (.istore_n 3, 1) := by decide +kernel
theorem dX12_group_2 : decode mX12_group.cd 2 = .ok (.iload_n 3, 1) := by decide +kernel
theorem dX12_group_3 : decode mX12_group.cd 3 = .ok (.aload_n 0, 1) := by decide +kernel
theorem dX12_group_4 : decode mX12_group.cd 4 = .ok (.getfield 427, 3) := by decide +kernel
theorem dX12_group_7 : decode mX12_group.cd 7 = .ok (.if_icmp .ge 81, 3) := by decide +kernel
theorem dX12_group_10 : decode mX12_group.cd 10 = .ok (.aload_n 0, 1) := by decide +kernel
theorem dX12_group_11 : decode mX12_group.cd 11 = .ok (.bipush 60, 2) := by decide +kernel
theorem dX12_group_13 : decode mX12_group.cd 13 = .ok (.iconst 0, 1) := by decide +kernel
theorem dX12_group_14 : decode mX12_group.cd 14 = .ok (.bipush 12, 2) := by decide +kernel
theorem dX12_group_16 : decode mX12_group.cd 16 = .ok (.invokevirtual 328, 3) := by decide +kernel
theorem dX12_group_19 : decode mX12_group.cd 19 = .ok (.aload_n 0, 1) := by decide +kernel
theorem dX12_group_20 : decode mX12_group.cd 20 = .ok (.iload_n 1, 1) := by decide +kernel
theorem dX12_group_21 : decode mX12_group.cd 21 = .ok (.iconst 0, 1) := by decide +kernel
theorem dX12_group_22 : decode mX12_group.cd 22 = .ok (.aload_n 0, 1) := by decide +kernel
theorem dX12_group_23 : decode mX12_group.cd 23 = .ok (.getfield 98, 3) := by decide +kernel
theorem dX12_group_26 : decode mX12_group.cd 26 = .ok (.iload_n 3, 1) := by decide +kernel
theorem dX12_group_27 : decode mX12_group.cd 27 = .ok (.iaload, 1) := by decide +kernel
theorem dX12_group_28 : decode mX12_group.cd 28 = .ok (.iload_n 2, 1) := by decide +kernel
theorem dX12_group_29 : decode mX12_group.cd 29 = .ok (.invokevirtual 431, 3) := by decide +kernel
theorem dX12_group_32 : decode mX12_group.cd 32 = .ok (.aload_n 0, 1) := by decide +kernel
theorem dX12_group_33 : decode mX12_group.cd 33 = .ok (.getfield 101, 3) := by decide +kernel
theorem dX12_group_36 : decode mX12_group.cd 36 = .ok (.iload_n 3, 1) := by decide +kernel
theorem dX12_group_37 : decode mX12_group.cd 37 = .ok (.lconst 0, 1) := by decide +kernel
theorem dX12_group_38 : decode mX12_group.cd 38 = .ok (.lastore, 1) := by decide +kernel
theorem dX12_group_39 : decode mX12_group.cd 39 = .ok (.iconst 0, 1) := by decide +kernel
theorem dX12_group_40 : decode mX12_group.cd 40 = .ok (.istore 4, 2) := by decide +kernel
theorem dX12_group_42 : decode mX12_group.cd 42 = .ok (.iload 4, 2) := by decide +kernel
theorem dX12_group_44 : decode mX12_group.cd 44 = .ok (.bipush 60, 2) := by decide +kernel
theorem dX12_group_46 : decode mX12_group.cd 46 = .ok (.if_icmp .ge 36, 3) := by decide +kernel
theorem dX12_group_49 : decode mX12_group.cd 49 = .ok (.aload_n 0, 1) := by decide +kernel
theorem dX12_group_50 : decode mX12_group.cd 50 = .ok (.getfield 101, 3) := by decide +kernel
theorem dX12_group_53 : decode mX12_group.cd 53 = .ok (.iload_n 3, 1) := by decide +kernel
theorem dX12_group_54 : decode mX12_group.cd 54 = .ok (.dup2, 1) := by decide +kernel
theorem dX12_group_55 : decode mX12_group.cd 55 = .ok (.laload, 1) := by decide +kernel
theorem dX12_group_56 : decode mX12_group.cd 56 = .ok (.aload_n 0, 1) := by decide +kernel
theorem dX12_group_57 : decode mX12_group.cd 57 = .ok (.iload 4, 2) := by decide +kernel
theorem dX12_group_59 : decode mX12_group.cd 59 = .ok (.invokevirtual 341, 3) := by decide +kernel
theorem dX12_group_62 : decode mX12_group.cd 62 = .ok (.iload_n 1, 1) := by decide +kernel
theorem dX12_group_63 : decode mX12_group.cd 63 = .ok (.if_icmp .ne 10, 3) := by decide +kernel
theorem dX12_group_66 : decode mX12_group.cd 66 = .ok (.lconst 1, 1) := by decide +kernel
theorem dX12_group_67 : decode mX12_group.cd 67 = .ok (.iload 4, 2) := by decide +kernel
theorem dX12_group_69 : decode mX12_group.cd 69 = .ok (.lshl, 1) := by decide +kernel
theorem dX12_group_70 : decode mX12_group.cd 70 = .ok (.goto 4, 3) := by decide +kernel
theorem dX12_group_73 : decode mX12_group.cd 73 = .ok (.lconst 0, 1) := by decide +kernel
theorem dX12_group_74 : decode mX12_group.cd 74 = .ok (.lor, 1) := by decide +kernel
theorem dX12_group_75 : decode mX12_group.cd 75 = .ok (.lastore, 1) := by decide +kernel
theorem dX12_group_76 : decode mX12_group.cd 76 = .ok (.iinc 4 1, 3) := by decide +kernel
theorem dX12_group_79 : decode mX12_group.cd 79 = .ok (.goto (-37), 3) := by decide +kernel
theorem dX12_group_82 : decode mX12_group.cd 82 = .ok (.iinc 3 1, 3) := by decide +kernel
theorem dX12_group_85 : decode mX12_group.cd 85 = .ok (.goto (-83), 3) := by decide +kernel
theorem dX12_group_88 : decode mX12_group.cd 88 = .ok (.iconst 0, 1) := by decide +kernel
theorem dX12_group_89 : decode mX12_group.cd 89 = .ok (.istore_n 3, 1) := by decide +kernel
theorem dX12_group_90 : decode mX12_group.cd 90 = .ok (.iconst 0, 1) := by decide +kernel
theorem dX12_group_91 : decode mX12_group.cd 91 = .ok (.istore 4, 2) := by decide +kernel
theorem dX12_group_93 : decode mX12_group.cd 93 = .ok (.iload 4, 2) := by decide +kernel
theorem dX12_group_95 : decode mX12_group.cd 95 = .ok (.aload_n 0, 1) := by decide +kernel
theorem dX12_group_96 : decode mX12_group.cd 96 = .ok (.getfield 427, 3) := by decide +kernel
theorem dX12_group_99 : decode mX12_group.cd 99 = .ok (.if_icmp .ge 71, 3) := by decide +kernel
theorem dX12_group_102 : decode mX12_group.cd 102 = .ok (.iconst 0, 1) := by decide +kernel
theorem dX12_group_103 : decode mX12_group.cd 103 = .ok (.istore 5, 2) := by decide +kernel
theorem dX12_group_105 : decode mX12_group.cd 105 = .ok (.iconst 0, 1) := by decide +kernel
theorem dX12_group_106 : decode mX12_group.cd 106 = .ok (.istore 6, 2) := by decide +kernel
theorem dX12_group_108 : decode mX12_group.cd 108 = .ok (.iload 6, 2) := by decide +kernel
theorem dX12_group_110 : decode mX12_group.cd 110 = .ok (.aload_n 0, 1) := by decide +kernel
theorem dX12_group_111 : decode mX12_group.cd 111 = .ok (.getfield 427, 3) := by decide +kernel
theorem dX12_group_114 : decode mX12_group.cd 114 = .ok (.if_icmp .ge 37, 3) := by decide +kernel
theorem dX12_group_117 : decode mX12_group.cd 117 = .ok (.iload 5, 2) := by decide +kernel
theorem dX12_group_119 : decode mX12_group.cd 119 = .ok (.aload_n 0, 1) := by decide +kernel
theorem dX12_group_120 : decode mX12_group.cd 120 = .ok (.getfield 101, 3) := by decide +kernel
theorem dX12_group_123 : decode mX12_group.cd 123 = .ok (.iload 6, 2) := by decide +kernel
theorem dX12_group_125 : decode mX12_group.cd 125 = .ok (.laload, 1) := by decide +kernel
theorem dX12_group_126 : decode mX12_group.cd 126 = .ok (.aload_n 0, 1) := by decide +kernel
theorem dX12_group_127 : decode mX12_group.cd 127 = .ok (.getfield 101, 3) := by decide +kernel
theorem dX12_group_130 : decode mX12_group.cd 130 = .ok (.iload 4, 2) := by decide +kernel
theorem dX12_group_132 : decode mX12_group.cd 132 = .ok (.laload, 1) := by decide +kernel
theorem dX12_group_133 : decode mX12_group.cd 133 = .ok (.lcmp, 1) := by decide +kernel
theorem dX12_group_134 : decode mX12_group.cd 134 = .ok (.ifCond .ne 7, 3) := by decide +kernel
theorem dX12_group_137 : decode mX12_group.cd 137 = .ok (.iconst 1, 1) := by decide +kernel
theorem dX12_group_138 : decode mX12_group.cd 138 = .ok (.goto 4, 3) := by decide +kernel
theorem dX12_group_141 : decode mX12_group.cd 141 = .ok (.iconst 0, 1) := by decide +kernel
theorem dX12_group_142 : decode mX12_group.cd 142 = .ok (.iadd, 1) := by decide +kernel
theorem dX12_group_143 : decode mX12_group.cd 143 = .ok (.istore 5, 2) := by decide +kernel
theorem dX12_group_145 : decode mX12_group.cd 145 = .ok (.iinc 6 1, 3) := by decide +kernel
theorem dX12_group_148 : decode mX12_group.cd 148 = .ok (.goto (-40), 3) := by decide +kernel
theorem dX12_group_151 : decode mX12_group.cd 151 = .ok (.iload 5, 2) := by decide +kernel
theorem dX12_group_153 : decode mX12_group.cd 153 = .ok (.iload_n 3, 1) := by decide +kernel
theorem dX12_group_154 : decode mX12_group.cd 154 = .ok (.if_icmp .le 8, 3) := by decide +kernel
theorem dX12_group_157 : decode mX12_group.cd 157 = .ok (.iload 5, 2) := by decide +kernel
theorem dX12_group_159 : decode mX12_group.cd 159 = .ok (.goto 4, 3) := by decide +kernel
theorem dX12_group_162 : decode mX12_group.cd 162 = .ok (.iload_n 3, 1) := by decide +kernel
theorem dX12_group_163 : decode mX12_group.cd 163 = .ok (.istore_n 3, 1) := by decide +kernel
theorem dX12_group_164 : decode mX12_group.cd 164 = .ok (.iinc 4 1, 3) := by decide +kernel
theorem dX12_group_167 : decode mX12_group.cd 167 = .ok (.goto (-74), 3) := by decide +kernel
theorem dX12_group_170 : decode mX12_group.cd 170 = .ok (.iload_n 3, 1) := by decide +kernel
theorem dX12_group_171 : decode mX12_group.cd 171 = .ok (.ireturn, 1) := by decide +kernel
theorem bX12_group_0 {fr M1 M2 b1 b2 : Nat} {Q : RS → Nat → AH → Prop} {h : AH} {l1 l2 : Int} {x3 x4 x5 x6 : AV}   (kk : Wp mX12_group (kR fr M1 M2) Q (b1, b2) 2 [zR 98, zI l1, zI l2, zI 0, none, none, none] [] 137 h) : Wp mX12_group (kR fr M1 M2) Q (b1, b2) 0 [zR 98, zI l1, zI l2, x3, x4, x5, x6] [] 137 h := by
  refine s_fgt (fgt_c (fgt_c (fgt_c (fgt_n _ (fgt_n _ (fgt_n _ (fgt_n _ fgt_0))))))) ?_
  refine s_iconst dX12_group_0 ?_
  refine s_istore_n dX12_group_1 rfl (by decide) ?_
  exact kk
theorem bX12_group_2 {fr M1 M2 b1 b2 : Nat} {Q : RS → Nat → AH → Prop} {h : AH} {l1 l2 l3 : Int} {x4 x5 x6 : AV}  (r1 : -2147483648 ≤ l3 ∧ l3 < 2147483648 := by omega) (r2 : -2147483648 ≤ h 98 72 ∧ h 98 72 < 2147483648 := by omega) (kt : h 98 72 ≤ l3 → Wp mX12_group (kR fr M1 M2) Q (b1, b2) 88 [zR 98, zI l1, zI l2, zI l3, none, none, none] [] 137 h) (kf : l3 < h 98 72 → Wp mX12_group (kR fr M1 M2) Q (b1, b2) 10 [zR 98, zI l1, zI l2, zI l3, none, none, none] [] 137 h) : Wp mX12_group (kR fr M1 M2) Q (b1, b2) 2 [zR 98, zI l1, zI l2, zI l3, x4, x5, x6] [] 137 h := by
  refine s_fgt (fgt_c (fgt_c (fgt_c (fgt_c (fgt_n _ (fgt_n _ (fgt_n _ fgt_0))))))) ?_
  refine s_iload_n (x := l3) dX12_group_2 rfl ?_
  refine s_aload_n (x := 98) dX12_group_3 rfl ?_
  refine s_get (c := 98) dX12_group_4 lX12_427 e98 (by decide) ?_
  exact s_icmp_ge (tgt := 88) dX12_group_7 (by decide) r1 r2 kt kf
theorem bX12_group_10 {fr M1 M2 b1 b2 : Nat} {Q : RS → Nat → AH → Prop} {h : AH} {l1 l2 l3 : Int} {x4 x5 x6 : AV} {R : AH → Prop}   (hS : Sp mX12_opens true (fr - 1) 0 0 [zR 98, zI 60, zI 0, zI 12] 137 h (rV R)) (hf : 1 ≤ fr := by omega) (kk : ∀ h' : AH, R h' → Wp mX12_group (kR fr M1 M2) Q (b1, b2) 19 [zR 98, zI l1, zI l2, zI l3, none, none, none] [] 137 h') : Wp mX12_group (kR fr M1 M2) Q (b1, b2) 10 [zR 98, zI l1, zI l2, zI l3, x4, x5, x6] [] 137 h := by
  refine s_fgt (fgt_c (fgt_c (fgt_c (fgt_c (fgt_n _ (fgt_n _ (fgt_n _ fgt_0))))))) ?_
  refine s_aload_n (x := 98) dX12_group_10 rfl ?_
  refine s_bipush dX12_group_11 (by decide) ?_
  refine s_iconst dX12_group_13 ?_
  refine s_bipush dX12_group_14 (by decide) ?_
  exact s_callV (as := [zI 60, zI 0, zI 12]) (st := []) (o := 98) dX12_group_16 kX12_328 rfl ⟨12, 87, TX12, e98, rfl, by decide⟩ rfl rfl (Nat.le_of_ble_eq_true rfl) hS (show fr - 1 + 1 ≤ fr by omega) (Nat.zero_le _) (Nat.zero_le _) (fun v n' h' hP _ => by obtain ⟨e, rfl, hR⟩ := hP; cases e; exact kk h' hR) (fun E n' h' _ z => (rV_nt _ _ _ z).elim)
theorem bX12_group_19 {fr M1 M2 b1 b2 : Nat} {Q : RS → Nat → AH → Prop} {h : AH} {l1 l2 l3 : Int} {x4 x5 x6 : AV} {R : AH → Prop}  (r1 : 0 ≤ l3 ∧ l3 < 1351 := by omega) (hS : Sp mX12_saysBy true (fr - 1) 0 0 [zR 98, zI l1, zI 0, zI (h 125 l3), zI l2] 137 h (rV R)) (hf : 1 ≤ fr := by omega) (kk : ∀ h' : AH, R h' → Wp mX12_group (kR fr M1 M2) Q (b1, b2) 32 [zR 98, zI l1, zI l2, zI l3, none, none, none] [] 137 h') : Wp mX12_group (kR fr M1 M2) Q (b1, b2) 19 [zR 98, zI l1, zI l2, zI l3, x4, x5, x6] [] 137 h := by
  refine s_fgt (fgt_c (fgt_c (fgt_c (fgt_c (fgt_n _ (fgt_n _ (fgt_n _ fgt_0))))))) ?_
  refine s_aload_n (x := 98) dX12_group_19 rfl ?_
  refine s_iload_n (x := l1) dX12_group_20 rfl ?_
  refine s_iconst dX12_group_21 ?_
  refine s_aload_n (x := 98) dX12_group_22 rfl ?_
  refine s_getFd (c := 98) (d := 125) dX12_group_23 lX12_98 e98 (Or.inl rfl) (by decide) (by decide) ?_
  refine s_iload_n (x := l3) dX12_group_26 rfl ?_
  refine s_iald (c := 125) (i := l3) dX12_group_27 e125 r1.1 r1.2 ?_
  refine s_iload_n (x := l2) dX12_group_28 rfl ?_
  exact s_callV (as := [zI l1, zI 0, zI (h 125 l3), zI l2]) (st := []) (o := 98) dX12_group_29 kX12_431 rfl ⟨12, 87, TX12, e98, rfl, by decide⟩ rfl rfl (Nat.le_of_ble_eq_true rfl) hS (show fr - 1 + 1 ≤ fr by omega) (Nat.zero_le _) (Nat.zero_le _) (fun v n' h' hP _ => by obtain ⟨e, rfl, hR⟩ := hP; cases e; exact kk h' hR) (fun E n' h' _ z => (rV_nt _ _ _ z).elim)
theorem bX12_group_32 {fr M1 M2 b1 b2 : Nat} {Q : RS → Nat → AH → Prop} {h : AH} {l1 l2 l3 : Int} {x4 x5 x6 : AV}  (r1 : 0 ≤ l3 ∧ l3 < 1351 := by omega) (kk : Wp mX12_group (kR fr M1 M2) Q (b1, b2) 42 [zR 98, zI l1, zI l2, zI l3, zI 0, none, none] [] 137 (up h 126 l3 0)) : Wp mX12_group (kR fr M1 M2) Q (b1, b2) 32 [zR 98, zI l1, zI l2, zI l3, x4, x5, x6] [] 137 h := by
  refine s_fgt (fgt_c (fgt_c (fgt_c (fgt_c (fgt_n _ (fgt_n _ (fgt_n _ fgt_0))))))) ?_
  refine s_aload_n (x := 98) dX12_group_32 rfl ?_
  refine s_getFd (c := 98) (d := 126) dX12_group_33 lX12_101 e98 (Or.inl rfl) (by decide) (by decide) ?_
  refine s_iload_n (x := l3) dX12_group_36 rfl ?_
  refine s_lconst (v := 0) dX12_group_37 (by decide) ?_
  refine s_last (c := 126) (i := l3) dX12_group_38 e126 r1.1 r1.2 ?_
  refine s_iconst dX12_group_39 ?_
  refine s_istore dX12_group_40 rfl (by decide) ?_
  exact kk
theorem bX12_group_42 {fr M1 M2 b1 b2 : Nat} {Q : RS → Nat → AH → Prop} {h : AH} {l1 l2 l3 l4 : Int} {x5 x6 : AV}  (r1 : -2147483648 ≤ l4 ∧ l4 < 2147483648 := by omega) (kt : 60 ≤ l4 → Wp mX12_group (kR fr M1 M2) Q (b1, b2) 82 [zR 98, zI l1, zI l2, zI l3, zI l4, none, none] [] 137 h) (kf : l4 < 60 → Wp mX12_group (kR fr M1 M2) Q (b1, b2) 49 [zR 98, zI l1, zI l2, zI l3, zI l4, none, none] [] 137 h) : Wp mX12_group (kR fr M1 M2) Q (b1, b2) 42 [zR 98, zI l1, zI l2, zI l3, zI l4, x5, x6] [] 137 h := by
  refine s_fgt (fgt_c (fgt_c (fgt_c (fgt_c (fgt_c (fgt_n _ (fgt_n _ fgt_0))))))) ?_
  refine s_iload (x := l4) dX12_group_42 rfl ?_
  refine s_bipush dX12_group_44 (by decide) ?_
  exact s_icmp_ge (tgt := 82) dX12_group_46 (by decide) r1 ⟨by decide, by decide⟩ kt kf
theorem bX12_group_49 {fr M1 M2 b1 b2 : Nat} {Q : RS → Nat → AH → Prop} {h : AH} {l1 l2 l3 l4 : Int} {x5 x6 : AV} {R : Int → AH → Prop}  (r1 : 0 ≤ l3 ∧ l3 < 1351 := by omega) (hS : Sp mX12_hears true (fr - 1) 0 0 [zR 98, zI l4] 137 h (rI R)) (hf : 1 ≤ fr := by omega) (kk : ∀ (x : Int) (h' : AH), R x h' → Wp mX12_group (kR fr M1 M2) Q (b1, b2) 62 [zR 98, zI l1, zI l2, zI l3, zI l4, none, none] [zI x, zL (h 126 l3), zI l3, zR 126] 137 h') : Wp mX12_group (kR fr M1 M2) Q (b1, b2) 49 [zR 98, zI l1, zI l2, zI l3, zI l4, x5, x6] [] 137 h := by
  refine s_fgt (fgt_c (fgt_c (fgt_c (fgt_c (fgt_c (fgt_n _ (fgt_n _ fgt_0))))))) ?_
  refine s_aload_n (x := 98) dX12_group_49 rfl ?_
  refine s_getFd (c := 98) (d := 126) dX12_group_50 lX12_101 e98 (Or.inl rfl) (by decide) (by decide) ?_
  refine s_iload_n (x := l3) dX12_group_53 rfl ?_
  refine s_dup2 dX12_group_54 rfl rfl ?_
  refine s_lald (c := 126) (i := l3) dX12_group_55 e126 r1.1 r1.2 ?_
  refine s_aload_n (x := 98) dX12_group_56 rfl ?_
  refine s_iload (x := l4) dX12_group_57 rfl ?_
  exact s_callV (as := [zI l4]) (st := [zL (h 126 l3), zI l3, zR 126]) (o := 98) dX12_group_59 kX12_341 rfl ⟨12, 87, TX12, e98, rfl, by decide⟩ rfl rfl (Nat.le_of_ble_eq_true rfl) hS (show fr - 1 + 1 ≤ fr by omega) (Nat.zero_le _) (Nat.zero_le _) (fun v n' h' hP _ => by obtain ⟨x, e, rfl, hR⟩ := hP; cases e; exact kk x h' hR) (fun E n' h' _ z => (rI_nt _ _ _ z).elim)
theorem bX12_group_62 {fr M1 M2 b1 b2 : Nat} {Q : RS → Nat → AH → Prop} {h : AH} {l1 l2 l3 l4 s2 s1 s0 : Int} {x5 x6 : AV}  (r1 : -2147483648 ≤ s0 ∧ s0 < 2147483648 := by omega) (r2 : -2147483648 ≤ l1 ∧ l1 < 2147483648 := by omega) (kt : ¬ s0 = l1 → Wp mX12_group (kR fr M1 M2) Q (b1, b2) 73 [zR 98, zI l1, zI l2, zI l3, zI l4, none, none] [zL s1, zI s2, zR 137] 137 h) (kf : s0 = l1 → Wp mX12_group (kR fr M1 M2) Q (b1, b2) 66 [zR 98, zI l1, zI l2, zI l3, zI l4, none, none] [zL s1, zI s2, zR 137] 137 h) : Wp mX12_group (kR fr M1 M2) Q (b1, b2) 62 [zR 98, zI l1, zI l2, zI l3, zI l4, x5, x6] [zI s0, zL s1, zI s2, zR 137] 137 h := by
  refine s_fgt (fgt_c (fgt_c (fgt_c (fgt_c (fgt_c (fgt_n _ (fgt_n _ fgt_0))))))) ?_
  refine s_iload_n (x := l1) dX12_group_62 rfl ?_
  exact s_icmp_ne (tgt := 73) dX12_group_63 (by decide) r1 r2 kt kf
theorem bX12_group_66 {fr M1 M2 b1 b2 : Nat} {Q : RS → Nat → AH → Prop} {h : AH} {l1 l2 l3 l4 s1 s0 : Int} {x5 x6 : AV}   (kk : Wp mX12_group (kR fr M1 M2) Q (b1, b2) 74 [zR 98, zI l1, zI l2, zI l3, zI l4, none, none] [zL (lShl 1 l4), zL s0, zI s1, zR 137] 137 h) : Wp mX12_group (kR fr M1 M2) Q (b1, b2) 66 [zR 98, zI l1, zI l2, zI l3, zI l4, x5, x6] [zL s0, zI s1, zR 137] 137 h := by
  refine s_fgt (fgt_c (fgt_c (fgt_c (fgt_c (fgt_c (fgt_n _ (fgt_n _ fgt_0))))))) ?_
  refine s_lconst (v := 1) dX12_group_66 (by decide) ?_
  refine s_iload (x := l4) dX12_group_67 rfl ?_
  refine s_lshl dX12_group_69 ?_
  exact s_goto (tgt := 74) dX12_group_70 (by decide) kk
theorem bX12_group_73 {fr M1 M2 b1 b2 : Nat} {Q : RS → Nat → AH → Prop} {h : AH} {l1 l2 l3 l4 s1 s0 : Int} {x5 x6 : AV}   (kk : Wp mX12_group (kR fr M1 M2) Q (b1, b2) 74 [zR 98, zI l1, zI l2, zI l3, zI l4, none, none] [zL 0, zL s0, zI s1, zR 137] 137 h) : Wp mX12_group (kR fr M1 M2) Q (b1, b2) 73 [zR 98, zI l1, zI l2, zI l3, zI l4, x5, x6] [zL s0, zI s1, zR 137] 137 h := by
  refine s_fgt (fgt_c (fgt_c (fgt_c (fgt_c (fgt_c (fgt_n _ (fgt_n _ fgt_0))))))) ?_
  refine s_lconst (v := 0) dX12_group_73 (by decide) ?_
  exact kk
theorem bX12_group_74 {fr M1 M2 b1 b2 : Nat} {Q : RS → Nat → AH → Prop} {h : AH} {l1 l2 l3 l4 s2 s1 s0 : Int} {x5 x6 : AV}  (r1 : 0 ≤ s2 ∧ s2 < 1 := by omega) (kk : Wp mX12_group (kR fr M1 M2) Q (b1, b2) 42 [zR 98, zI l1, zI l2, zI l3, zI (l4 + 1), none, none] [] 137 (up h 137 s2 (lOr s1 s0))) : Wp mX12_group (kR fr M1 M2) Q (b1, b2) 74 [zR 98, zI l1, zI l2, zI l3, zI l4, x5, x6] [zL s0, zL s1, zI s2, zR 137] 137 h := by
  refine s_fgt (fgt_c (fgt_c (fgt_c (fgt_c (fgt_c (fgt_n _ (fgt_n _ fgt_0))))))) ?_
  refine s_lor dX12_group_74 ?_
  refine s_last (c := 137) (i := s2) dX12_group_75 e137 r1.1 r1.2 ?_
  refine s_iinc (x := l4) dX12_group_76 rfl rfl (by decide) ?_
  exact s_goto (tgt := 42) dX12_group_79 (by decide) kk
theorem bX12_group_82 {fr M1 M2 b1 b2 : Nat} {Q : RS → Nat → AH → Prop} {h : AH} {l1 l2 l3 : Int} {x4 x5 x6 : AV}   (kk : Wp mX12_group (kR fr M1 M2) Q (b1, b2) 2 [zR 98, zI l1, zI l2, zI (l3 + 1), none, none, none] [] 137 h) : Wp mX12_group (kR fr M1 M2) Q (b1, b2) 82 [zR 98, zI l1, zI l2, zI l3, x4, x5, x6] [] 137 h := by
  refine s_fgt (fgt_c (fgt_c (fgt_c (fgt_c (fgt_n _ (fgt_n _ (fgt_n _ fgt_0))))))) ?_
  refine s_iinc (x := l3) dX12_group_82 rfl rfl (by decide) ?_
  exact s_goto (tgt := 2) dX12_group_85 (by decide) kk
theorem bX12_group_88 {fr M1 M2 b1 b2 : Nat} {Q : RS → Nat → AH → Prop} {h : AH} {x1 x2 x3 x4 x5 x6 : AV}   (kk : Wp mX12_group (kR fr M1 M2) Q (b1, b2) 93 [zR 98, none, none, zI 0, zI 0, none, none] [] 137 h) : Wp mX12_group (kR fr M1 M2) Q (b1, b2) 88 [zR 98, x1, x2, x3, x4, x5, x6] [] 137 h := by
  refine s_fgt (fgt_c (fgt_n _ (fgt_n _ (fgt_n _ (fgt_n _ (fgt_n _ (fgt_n _ fgt_0))))))) ?_
  refine s_iconst dX12_group_88 ?_
  refine s_istore_n dX12_group_89 rfl (by decide) ?_
  refine s_iconst dX12_group_90 ?_
  refine s_istore dX12_group_91 rfl (by decide) ?_
  exact kk
theorem bX12_group_93 {fr M1 M2 b1 b2 : Nat} {Q : RS → Nat → AH → Prop} {h : AH} {l3 l4 : Int} {x1 x2 x5 x6 : AV}  (r1 : -2147483648 ≤ l4 ∧ l4 < 2147483648 := by omega) (r2 : -2147483648 ≤ h 98 72 ∧ h 98 72 < 2147483648 := by omega) (kt : h 98 72 ≤ l4 → Wp mX12_group (kR fr M1 M2) Q (b1, b2) 170 [zR 98, none, none, zI l3, zI l4, none, none] [] 137 h) (kf : l4 < h 98 72 → Wp mX12_group (kR fr M1 M2) Q (b1, b2) 102 [zR 98, none, none, zI l3, zI l4, none, none] [] 137 h) : Wp mX12_group (kR fr M1 M2) Q (b1, b2) 93 [zR 98, x1, x2, zI l3, zI l4, x5, x6] [] 137 h := by
  refine s_fgt (fgt_c (fgt_n _ (fgt_n _ (fgt_c (fgt_c (fgt_n _ (fgt_n _ fgt_0))))))) ?_
  refine s_iload (x := l4) dX12_group_93 rfl ?_
  refine s_aload_n (x := 98) dX12_group_95 rfl ?_
  refine s_get (c := 98) dX12_group_96 lX12_427 e98 (by decide) ?_
  exact s_icmp_ge (tgt := 170) dX12_group_99 (by decide) r1 r2 kt kf
theorem bX12_group_102 {fr M1 M2 b1 b2 : Nat} {Q : RS → Nat → AH → Prop} {h : AH} {l3 l4 : Int} {x1 x2 x5 x6 : AV}   (kk : Wp mX12_group (kR fr M1 M2) Q (b1, b2) 108 [zR 98, none, none, zI l3, zI l4, zI 0, zI 0] [] 137 h) : Wp mX12_group (kR fr M1 M2) Q (b1, b2) 102 [zR 98, x1, x2, zI l3, zI l4, x5, x6] [] 137 h := by
  refine s_fgt (fgt_c (fgt_n _ (fgt_n _ (fgt_c (fgt_c (fgt_n _ (fgt_n _ fgt_0))))))) ?_
  refine s_iconst dX12_group_102 ?_
  refine s_istore dX12_group_103 rfl (by decide) ?_
  refine s_iconst dX12_group_105 ?_
  refine s_istore dX12_group_106 rfl (by decide) ?_
  exact kk
theorem bX12_group_108 {fr M1 M2 b1 b2 : Nat} {Q : RS → Nat → AH → Prop} {h : AH} {l3 l4 l5 l6 : Int} {x1 x2 : AV}  (r1 : -2147483648 ≤ l6 ∧ l6 < 2147483648 := by omega) (r2 : -2147483648 ≤ h 98 72 ∧ h 98 72 < 2147483648 := by omega) (kt : h 98 72 ≤ l6 → Wp mX12_group (kR fr M1 M2) Q (b1, b2) 151 [zR 98, none, none, zI l3, zI l4, zI l5, zI l6] [] 137 h) (kf : l6 < h 98 72 → Wp mX12_group (kR fr M1 M2) Q (b1, b2) 117 [zR 98, none, none, zI l3, zI l4, zI l5, zI l6] [] 137 h) : Wp mX12_group (kR fr M1 M2) Q (b1, b2) 108 [zR 98, x1, x2, zI l3, zI l4, zI l5, zI l6] [] 137 h := by
  refine s_fgt (fgt_c (fgt_n _ (fgt_n _ (fgt_c (fgt_c (fgt_c (fgt_c fgt_0))))))) ?_
  refine s_iload (x := l6) dX12_group_108 rfl ?_
  refine s_aload_n (x := 98) dX12_group_110 rfl ?_
  refine s_get (c := 98) dX12_group_111 lX12_427 e98 (by decide) ?_
  exact s_icmp_ge (tgt := 151) dX12_group_114 (by decide) r1 r2 kt kf
theorem bX12_group_117 {fr M1 M2 b1 b2 : Nat} {Q : RS → Nat → AH → Prop} {h : AH} {l3 l4 l5 l6 : Int} {x1 x2 : AV}  (r1 : 0 ≤ l6 ∧ l6 < 1351 := by omega) (r2 : 0 ≤ l4 ∧ l4 < 1351 := by omega) (r3 : -2147483648 ≤ (lg_cmp (Int64.ofInt (h 126 l6)) (Int64.ofInt (h 126 l4))).toInt ∧ (lg_cmp (Int64.ofInt (h 126 l6)) (Int64.ofInt (h 126 l4))).toInt < 2147483648 := by omega) (kt : ¬ (lg_cmp (Int64.ofInt (h 126 l6)) (Int64.ofInt (h 126 l4))).toInt = 0 → Wp mX12_group (kR fr M1 M2) Q (b1, b2) 141 [zR 98, none, none, zI l3, zI l4, zI l5, zI l6] [zI l5] 137 h) (kf : (lg_cmp (Int64.ofInt (h 126 l6)) (Int64.ofInt (h 126 l4))).toInt = 0 → Wp mX12_group (kR fr M1 M2) Q (b1, b2) 137 [zR 98, none, none, zI l3, zI l4, zI l5, zI l6] [zI l5] 137 h) : Wp mX12_group (kR fr M1 M2) Q (b1, b2) 117 [zR 98, x1, x2, zI l3, zI l4, zI l5, zI l6] [] 137 h := by
  refine s_fgt (fgt_c (fgt_n _ (fgt_n _ (fgt_c (fgt_c (fgt_c (fgt_c fgt_0))))))) ?_
  refine s_iload (x := l5) dX12_group_117 rfl ?_
  refine s_aload_n (x := 98) dX12_group_119 rfl ?_
  refine s_getFd (c := 98) (d := 126) dX12_group_120 lX12_101 e98 (Or.inl rfl) (by decide) (by decide) ?_
  refine s_iload (x := l6) dX12_group_123 rfl ?_
  refine s_lald (c := 126) (i := l6) dX12_group_125 e126 r1.1 r1.2 ?_
  refine s_aload_n (x := 98) dX12_group_126 rfl ?_
  refine s_getFd (c := 98) (d := 126) dX12_group_127 lX12_101 e98 (Or.inl rfl) (by decide) (by decide) ?_
  refine s_iload (x := l4) dX12_group_130 rfl ?_
  refine s_lald (c := 126) (i := l4) dX12_group_132 e126 r2.1 r2.2 ?_
  refine s_lcmp dX12_group_133 ?_
  exact s_if_ne (tgt := 141) dX12_group_134 (by decide) r3 kt kf
theorem bX12_group_137 {fr M1 M2 b1 b2 : Nat} {Q : RS → Nat → AH → Prop} {h : AH} {l3 l4 l6 s0 : Int} {x1 x2 x5 : AV}   (kk : Wp mX12_group (kR fr M1 M2) Q (b1, b2) 142 [zR 98, none, none, zI l3, zI l4, none, zI l6] [zI 1, zI s0] 137 h) : Wp mX12_group (kR fr M1 M2) Q (b1, b2) 137 [zR 98, x1, x2, zI l3, zI l4, x5, zI l6] [zI s0] 137 h := by
  refine s_fgt (fgt_c (fgt_n _ (fgt_n _ (fgt_c (fgt_c (fgt_n _ (fgt_c fgt_0))))))) ?_
  refine s_iconst dX12_group_137 ?_
  exact s_goto (tgt := 142) dX12_group_138 (by decide) kk
theorem bX12_group_141 {fr M1 M2 b1 b2 : Nat} {Q : RS → Nat → AH → Prop} {h : AH} {l3 l4 l6 s0 : Int} {x1 x2 x5 : AV}   (kk : Wp mX12_group (kR fr M1 M2) Q (b1, b2) 142 [zR 98, none, none, zI l3, zI l4, none, zI l6] [zI 0, zI s0] 137 h) : Wp mX12_group (kR fr M1 M2) Q (b1, b2) 141 [zR 98, x1, x2, zI l3, zI l4, x5, zI l6] [zI s0] 137 h := by
  refine s_fgt (fgt_c (fgt_n _ (fgt_n _ (fgt_c (fgt_c (fgt_n _ (fgt_c fgt_0))))))) ?_
  refine s_iconst dX12_group_141 ?_
  exact kk
theorem bX12_group_142 {fr M1 M2 b1 b2 : Nat} {Q : RS → Nat → AH → Prop} {h : AH} {l3 l4 l6 s1 s0 : Int} {x1 x2 x5 : AV}   (kk : Wp mX12_group (kR fr M1 M2) Q (b1, b2) 108 [zR 98, none, none, zI l3, zI l4, zI (s1 + s0), zI (l6 + 1)] [] 137 h) : Wp mX12_group (kR fr M1 M2) Q (b1, b2) 142 [zR 98, x1, x2, zI l3, zI l4, x5, zI l6] [zI s0, zI s1] 137 h := by
  refine s_fgt (fgt_c (fgt_n _ (fgt_n _ (fgt_c (fgt_c (fgt_n _ (fgt_c fgt_0))))))) ?_
  refine s_iadd dX12_group_142 ?_
  refine s_istore dX12_group_143 rfl (by decide) ?_
  refine s_iinc (x := l6) dX12_group_145 rfl rfl (by decide) ?_
  exact s_goto (tgt := 108) dX12_group_148 (by decide) kk
theorem bX12_group_151 {fr M1 M2 b1 b2 : Nat} {Q : RS → Nat → AH → Prop} {h : AH} {l3 l4 l5 : Int} {x1 x2 x6 : AV}  (r1 : -2147483648 ≤ l5 ∧ l5 < 2147483648 := by omega) (r2 : -2147483648 ≤ l3 ∧ l3 < 2147483648 := by omega) (kt : l5 ≤ l3 → Wp mX12_group (kR fr M1 M2) Q (b1, b2) 162 [zR 98, none, none, zI l3, zI l4, zI l5, none] [] 137 h) (kf : l3 < l5 → Wp mX12_group (kR fr M1 M2) Q (b1, b2) 157 [zR 98, none, none, zI l3, zI l4, zI l5, none] [] 137 h) : Wp mX12_group (kR fr M1 M2) Q (b1, b2) 151 [zR 98, x1, x2, zI l3, zI l4, zI l5, x6] [] 137 h := by
  refine s_fgt (fgt_c (fgt_n _ (fgt_n _ (fgt_c (fgt_c (fgt_c (fgt_n _ fgt_0))))))) ?_
  refine s_iload (x := l5) dX12_group_151 rfl ?_
  refine s_iload_n (x := l3) dX12_group_153 rfl ?_
  exact s_icmp_le (tgt := 162) dX12_group_154 (by decide) r1 r2 kt kf
theorem bX12_group_157 {fr M1 M2 b1 b2 : Nat} {Q : RS → Nat → AH → Prop} {h : AH} {l4 l5 : Int} {x1 x2 x3 x6 : AV}   (kk : Wp mX12_group (kR fr M1 M2) Q (b1, b2) 163 [zR 98, none, none, none, zI l4, zI l5, none] [zI l5] 137 h) : Wp mX12_group (kR fr M1 M2) Q (b1, b2) 157 [zR 98, x1, x2, x3, zI l4, zI l5, x6] [] 137 h := by
  refine s_fgt (fgt_c (fgt_n _ (fgt_n _ (fgt_n _ (fgt_c (fgt_c (fgt_n _ fgt_0))))))) ?_
  refine s_iload (x := l5) dX12_group_157 rfl ?_
  exact s_goto (tgt := 163) dX12_group_159 (by decide) kk
theorem bX12_group_162 {fr M1 M2 b1 b2 : Nat} {Q : RS → Nat → AH → Prop} {h : AH} {l3 l4 : Int} {x1 x2 x5 x6 : AV}   (kk : Wp mX12_group (kR fr M1 M2) Q (b1, b2) 163 [zR 98, none, none, zI l3, zI l4, none, none] [zI l3] 137 h) : Wp mX12_group (kR fr M1 M2) Q (b1, b2) 162 [zR 98, x1, x2, zI l3, zI l4, x5, x6] [] 137 h := by
  refine s_fgt (fgt_c (fgt_n _ (fgt_n _ (fgt_c (fgt_c (fgt_n _ (fgt_n _ fgt_0))))))) ?_
  refine s_iload_n (x := l3) dX12_group_162 rfl ?_
  exact kk
theorem bX12_group_163 {fr M1 M2 b1 b2 : Nat} {Q : RS → Nat → AH → Prop} {h : AH} {l4 s0 : Int} {x1 x2 x3 x5 x6 : AV}   (kk : Wp mX12_group (kR fr M1 M2) Q (b1, b2) 93 [zR 98, none, none, zI s0, zI (l4 + 1), none, none] [] 137 h) : Wp mX12_group (kR fr M1 M2) Q (b1, b2) 163 [zR 98, x1, x2, x3, zI l4, x5, x6] [zI s0] 137 h := by
  refine s_fgt (fgt_c (fgt_n _ (fgt_n _ (fgt_n _ (fgt_c (fgt_n _ (fgt_n _ fgt_0))))))) ?_
  refine s_istore_n dX12_group_163 rfl (by decide) ?_
  refine s_iinc (x := l4) dX12_group_164 rfl rfl (by decide) ?_
  exact s_goto (tgt := 93) dX12_group_167 (by decide) kk
theorem bX12_group_170 {fr M1 M2 b1 b2 : Nat} {Q : RS → Nat → AH → Prop} {h : AH} {l3 : Int} {x0 x1 x2 x4 x5 x6 : AV}   (hq : Q (.inl (some (zI l3))) 137 h) : Wp mX12_group (kR fr M1 M2) Q (b1, b2) 170 [x0, x1, x2, zI l3, x4, x5, x6] [] 137 h := by
  refine s_fgt (fgt_n _ (fgt_n _ (fgt_n _ (fgt_c (fgt_n _ (fgt_n _ (fgt_n _ fgt_0))))))) ?_
  refine s_iload_n (x := l3) dX12_group_170 rfl ?_
  exact s_ireturn dX12_group_171 ⟨.int, rfl, rfl⟩ hq (fun z => by cases z)
theorem dX12_rivals_0 : decode mX12_rivals.cd 0 = .ok (.aload_n 0, 1) := by decide +kernel
theorem dX12_rivals_1 : decode mX12_rivals.cd 1 = .ok (.iconst 0, 1) := by decide +kernel
theorem dX12_rivals_2 : decode mX12_rivals.cd 2 = .ok (.putfield 136, 3) := by decide +kernel
theorem dX12_rivals_5 : decode mX12_rivals.cd 5 = .ok (.aload_n 0, 1) := by decide +kernel
theorem dX12_rivals_6 : decode mX12_rivals.cd 6 = .ok (.iload_n 2, 1) := by decide +kernel
theorem dX12_rivals_7 : decode mX12_rivals.cd 7 = .ok (.iconst 0, 1) := by decide +kernel
theorem dX12_rivals_8 : decode mX12_rivals.cd 8 = .ok (.iconst 5, 1) := by decide +kernel
theorem dX12_rivals_9 : decode mX12_rivals.cd 9 = .ok (.invokestatic 301, 3) := by decide +kernel
theorem dX12_rivals_12 : decode mX12_rivals.cd 12 = .ok (.iconst 1, 1) := by decide +kernel
theorem dX12_rivals_13 : decode mX12_rivals.cd 13 = .ok (.invokevirtual 260, 3) := by decide +kernel
theorem dX12_rivals_16 : decode mX12_rivals.cd 16 = .ok (.ifCond .eq 18, 3) := by decide +kernel
theorem dX12_rivals_19 : decode mX12_rivals.cd 19 = .ok (.aload_n 0, 1) := by decide +kernel
theorem dX12_rivals_20 : decode mX12_rivals.cd 20 = .ok (.iload_n 1, 1) := by decide +kernel
theorem dX12_rivals_21 : decode mX12_rivals.cd 21 = .ok (.iconst 1, 1) := by decide +kernel
theorem dX12_rivals_22 : decode mX12_rivals.cd 22 = .ok (.bipush 100, 2) := by decide +kernel
theorem dX12_rivals_24 : decode mX12_rivals.cd 24 = .ok (.invokestatic 301, 3) := by decide +kernel
theorem dX12_rivals_27 : decode mX12_rivals.cd 27 = .ok (.iconst 2, 1) := by decide +kernel
theorem dX12_rivals_28 : decode mX12_rivals.cd 28 = .ok (.invokevirtual 260, 3) := by decide +kernel
theorem dX12_rivals_31 : decode mX12_rivals.cd 31 = .ok (.ifCond .ne 5, 3) := by decide +kernel
theorem dX12_rivals_34 : decode mX12_rivals.cd 34 = .ok (.iconst 0, 1) := by decide +kernel
theorem dX12_rivals_35 : decode mX12_rivals.cd 35 = .ok (.ireturn, 1) := by decide +kernel
theorem dX12_rivals_36 : decode mX12_rivals.cd 36 = .ok (.aload_n 0, 1) := by decide +kernel
theorem dX12_rivals_37 : decode mX12_rivals.cd 37 = .ok (.iload_n 1, 1) := by decide +kernel
theorem dX12_rivals_38 : decode mX12_rivals.cd 38 = .ok (.invokevirtual 441, 3) := by decide +kernel
theorem dX12_rivals_41 : decode mX12_rivals.cd 41 = .ok (.aload_n 0, 1) := by decide +kernel
theorem dX12_rivals_42 : decode mX12_rivals.cd 42 = .ok (.getfield 427, 3) := by decide +kernel
theorem dX12_rivals_45 : decode mX12_rivals.cd 45 = .ok (.ifCond .ne 7, 3) := by decide +kernel
theorem dX12_rivals_48 : decode mX12_rivals.cd 48 = .ok (.iconst 0, 1) := by decide +kernel
theorem dX12_rivals_49 : decode mX12_rivals.cd 49 = .ok (.goto 6, 3) := by decide +kernel
theorem dX12_rivals_52 : decode mX12_rivals.cd 52 = .ok (.ldc_w 444, 3) := by decide +kernel
theorem dX12_rivals_55 : decode mX12_rivals.cd 55 = .ok (.istore_n 3, 1) := by decide +kernel
theorem dX12_rivals_56 : decode mX12_rivals.cd 56 = .ok (.iconst 0, 1) := by decide +kernel
theorem dX12_rivals_57 : decode mX12_rivals.cd 57 = .ok (.istore 4, 2) := by decide +kernel
theorem dX12_rivals_59 : decode mX12_rivals.cd 59 = .ok (.iconst 0, 1) := by decide +kernel
theorem dX12_rivals_60 : decode mX12_rivals.cd 60 = .ok (.istore 5, 2) := by decide +kernel
theorem dX12_rivals_62 : decode mX12_rivals.cd 62 = .ok (.iload 5, 2) := by decide +kernel
theorem dX12_rivals_64 : decode mX12_rivals.cd 64 = .ok (.aload_n 0, 1) := by decide +kernel
theorem dX12_rivals_65 : decode mX12_rivals.cd 65 = .ok (.getfield 427, 3) := by decide +kernel
theorem dX12_rivals_68 : decode mX12_rivals.cd 68 = .ok (.if_icmp .ge 31, 3) := by decide +kernel
theorem dX12_rivals_71 : decode mX12_rivals.cd 71 = .ok (.iload_n 3, 1) := by decide +kernel
theorem dX12_rivals_72 : decode mX12_rivals.cd 72 = .ok (.aload_n 0, 1) := by decide +kernel
theorem dX12_rivals_73 : decode mX12_rivals.cd 73 = .ok (.getfield 98, 3) := by decide +kernel
theorem dX12_rivals_76 : decode mX12_rivals.cd 76 = .ok (.iload 5, 2) := by decide +kernel
theorem dX12_rivals_78 : decode mX12_rivals.cd 78 = .ok (.iaload, 1) := by decide +kernel
theorem dX12_rivals_79 : decode mX12_rivals.cd 79 = .ok (.iand, 1) := by decide +kernel
theorem dX12_rivals_80 : decode mX12_rivals.cd 80 = .ok (.istore_n 3, 1) := by decide +kernel
theorem dX12_rivals_81 : decode mX12_rivals.cd 81 = .ok (.iload 4, 2) := by decide +kernel
theorem dX12_rivals_83 : decode mX12_rivals.cd 83 = .ok (.aload_n 0, 1) := by decide +kernel
theorem dX12_rivals_84 : decode mX12_rivals.cd 84 = .ok (.getfield 98, 3) := by decide +kernel
theorem dX12_rivals_87 : decode mX12_rivals.cd 87 = .ok (.iload 5, 2) := by decide +kernel
theorem dX12_rivals_89 : decode mX12_rivals.cd 89 = .ok (.iaload, 1) := by decide +kernel
theorem dX12_rivals_90 : decode mX12_rivals.cd 90 = .ok (.ior, 1) := by decide +kernel
theorem dX12_rivals_91 : decode mX12_rivals.cd 91 = .ok (.istore 4, 2) := by decide +kernel
theorem dX12_rivals_93 : decode mX12_rivals.cd 93 = .ok (.iinc 5 1, 3) := by decide +kernel
theorem dX12_rivals_96 : decode mX12_rivals.cd 96 = .ok (.goto (-34), 3) := by decide +kernel
theorem dX12_rivals_99 : decode mX12_rivals.cd 99 = .ok (.iload_n 2, 1) := by decide +kernel
theorem dX12_rivals_100 : decode mX12_rivals.cd 100 = .ok (.iconst 4, 1) := by decide +kernel
theorem dX12_rivals_101 : decode mX12_rivals.cd 101 = .ok (.if_icmp .ge 51, 3) := by decide +kernel
theorem dX12_rivals_104 : decode mX12_rivals.cd 104 = .ok (.iload_n 2, 1) := by decide +kernel
theorem dX12_rivals_105 : decode mX12_rivals.cd 105 = .ok (.ifCond .ne 10, 3) := by decide +kernel
theorem dX12_rivals_108 : decode mX12_rivals.cd 108 = .ok (.aload_n 0, 1) := by decide +kernel
theorem dX12_rivals_109 : decode mX12_rivals.cd 109 = .ok (.getfield 427, 3) := by decide +kernel
theorem dX12_rivals_112 : decode mX12_rivals.cd 112 = .ok (.goto 39, 3) := by decide +kernel
theorem dX12_rivals_115 : decode mX12_rivals.cd 115 = .ok (.iload_n 2, 1) := by decide +kernel
theorem dX12_rivals_116 : decode mX12_rivals.cd 116 = .ok (.iconst 1, 1) := by decide +kernel
theorem dX12_rivals_117 : decode mX12_rivals.cd 117 = .ok (.if_icmp .ne 7, 3) := by decide +kernel
theorem dX12_rivals_120 : decode mX12_rivals.cd 120 = .ok (.iload_n 3, 1) := by decide +kernel
theorem dX12_rivals_121 : decode mX12_rivals.cd 121 = .ok (.goto 30, 3) := by decide +kernel
theorem dX12_rivals_124 : decode mX12_rivals.cd 124 = .ok (.iload_n 2, 1) := by decide +kernel
theorem dX12_rivals_125 : decode mX12_rivals.cd 125 = .ok (.iconst 2, 1) := by decide +kernel
theorem dX12_rivals_126 : decode mX12_rivals.cd 126 = .ok (.if_icmp .ne 8, 3) := by decide +kernel
theorem dX12_rivals_129 : decode mX12_rivals.cd 129 = .ok (.iload 4, 2) := by decide +kernel
theorem dX12_rivals_131 : decode mX12_rivals.cd 131 = .ok (.goto 20, 3) := by decide +kernel
theorem dX12_rivals_134 : decode mX12_rivals.cd 134 = .ok (.aload_n 0, 1) := by decide +kernel
theorem dX12_rivals_135 : decode mX12_rivals.cd 135 = .ok (.getfield 427, 3) := by decide +kernel
theorem dX12_rivals_138 : decode mX12_rivals.cd 138 = .ok (.ifCond .ne 7, 3) := by decide +kernel
theorem dX12_rivals_141 : decode mX12_rivals.cd 141 = .ok (.iconst (-1), 1) := by decide +kernel
theorem dX12_rivals_142 : decode mX12_rivals.cd 142 = .ok (.goto 9, 3) := by decide +kernel
theorem dX12_rivals_145 : decode mX12_rivals.cd 145 = .ok (.aload_n 0, 1) := by decide +kernel
theorem dX12_rivals_146 : decode mX12_rivals.cd 146 = .ok (.getfield 98, 3) := by decide +kernel
theorem dX12_rivals_149 : decode mX12_rivals.cd 149 = .ok (.iconst 0, 1) := by decide +kernel
theorem dX12_rivals_150 : decode mX12_rivals.cd 150 = .ok (.iaload, 1) := by decide +kernel
theorem dX12_rivals_151 : decode mX12_rivals.cd 151 = .ok (.ireturn, 1) := by decide +kernel
theorem dX12_rivals_152 : decode mX12_rivals.cd 152 = .ok (.iconst (-1), 1) := by decide +kernel
theorem dX12_rivals_153 : decode mX12_rivals.cd 153 = .ok (.istore 5, 2) := by decide +kernel
theorem dX12_rivals_155 : decode mX12_rivals.cd 155 = .ok (.iconst 0, 1) := by decide +kernel
theorem dX12_rivals_156 : decode mX12_rivals.cd 156 = .ok (.istore 6, 2) := by decide +kernel
theorem dX12_rivals_158 : decode mX12_rivals.cd 158 = .ok (.iconst 0, 1) := by decide +kernel
theorem dX12_rivals_159 : decode mX12_rivals.cd 159 = .ok (.istore 7, 2) := by decide +kernel
theorem dX12_rivals_161 : decode mX12_rivals.cd 161 = .ok (.iload 7, 2) := by decide +kernel
theorem dX12_rivals_163 : decode mX12_rivals.cd 163 = .ok (.aload_n 0, 1) := by decide +kernel
theorem dX12_rivals_164 : decode mX12_rivals.cd 164 = .ok (.getfield 267, 3) := by decide +kernel
theorem dX12_rivals_167 : decode mX12_rivals.cd 167 = .ok (.if_icmp .ge 49, 3) := by decide +kernel
theorem dX12_rivals_170 : decode mX12_rivals.cd 170 = .ok (.aload_n 0, 1) := by decide +kernel
theorem dX12_rivals_171 : decode mX12_rivals.cd 171 = .ok (.getfield 427, 3) := by decide +kernel
theorem dX12_rivals_174 : decode mX12_rivals.cd 174 = .ok (.ifCond .le 42, 3) := by decide +kernel
theorem dX12_rivals_177 : decode mX12_rivals.cd 177 = .ok (.aload_n 0, 1) := by decide +kernel
theorem dX12_rivals_178 : decode mX12_rivals.cd 178 = .ok (.iload 7, 2) := by decide +kernel
theorem dX12_rivals_180 : decode mX12_rivals.cd 180 = .ok (.iload_n 1, 1) := by decide +kernel
theorem dX12_rivals_181 : decode mX12_rivals.cd 181 = .ok (.invokevirtual 445, 3) := by decide +kernel
theorem dX12_rivals_184 : decode mX12_rivals.cd 184 = .ok (.istore 8, 2) := by decide +kernel
theorem dX12_rivals_186 : decode mX12_rivals.cd 186 = .ok (.iload 5, 2) := by decide +kernel
theorem dX12_rivals_188 : decode mX12_rivals.cd 188 = .ok (.iconst (-1), 1) := by decide +kernel
theorem dX12_rivals_189 : decode mX12_rivals.cd 189 = .ok (.if_icmp .eq 13, 3) := by decide +kernel
theorem dX12_rivals_192 : decode mX12_rivals.cd 192 = .ok (.iload 8, 2) := by decide +kernel
theorem dX12_rivals_194 : decode mX12_rivals.cd 194 = .ok (.iload 6, 2) := by decide +kernel
theorem dX12_rivals_196 : decode mX12_rivals.cd 196 = .ok (.if_icmp .lt 6, 3) := by decide +kernel
theorem dX12_rivals_199 : decode mX12_rivals.cd 199 = .ok (.goto 11, 3) := by decide +kernel
theorem dX12_rivals_202 : decode mX12_rivals.cd 202 = .ok (.iload 7, 2) := by decide +kernel
theorem dX12_rivals_204 : decode mX12_rivals.cd 204 = .ok (.istore 5, 2) := by decide +kernel
theorem dX12_rivals_206 : decode mX12_rivals.cd 206 = .ok (.iload 8, 2) := by decide +kernel
theorem dX12_rivals_208 : decode mX12_rivals.cd 208 = .ok (.istore 6, 2) := by decide +kernel
theorem dX12_rivals_210 : decode mX12_rivals.cd 210 = .ok (.iinc 7 1, 3) := by decide +kernel
theorem dX12_rivals_213 : decode mX12_rivals.cd 213 = .ok (.goto (-52), 3) := by decide +kernel
theorem dX12_rivals_216 : decode mX12_rivals.cd 216 = .ok (.iload_n 2, 1) := by decide +kernel
theorem dX12_rivals_217 : decode mX12_rivals.cd 217 = .ok (.iconst 4, 1) := by decide +kernel
theorem dX12_rivals_218 : decode mX12_rivals.cd 218 = .ok (.if_icmp .ne 8, 3) := by decide +kernel
theorem dX12_rivals_221 : decode mX12_rivals.cd 221 = .ok (.iload 5, 2) := by decide +kernel
theorem dX12_rivals_223 : decode mX12_rivals.cd 223 = .ok (.goto 5, 3) := by decide +kernel
theorem dX12_rivals_226 : decode mX12_rivals.cd 226 = .ok (.iload 6, 2) := by decide +kernel
theorem dX12_rivals_228 : decode mX12_rivals.cd 228 = .ok (.ireturn, 1) := by decide +kernel
theorem bX12_rivals_0 {fr M1 M2 b1 b2 : Nat} {Q : RS → Nat → AH → Prop} {h : AH} {l1 l2 : Int} {x3 x4 x5 x6 x7 x8 : AV} {R : Int → AH → Prop}   (hS : Sp mX12_within true (fr - 1) 0 0 [zI l2, zI 0, zI 5] 137 (up h 98 0 0) (rI R)) (hf : 1 ≤ fr := by omega) (kk : ∀ (x : Int) (h' : AH), R x h' → Wp mX12_rivals (kR fr M1 M2) Q (b1, b2) 12 [zR 98, zI l1, zI l2, none, none, none, none, none, none] [zI x, zR 98] 137 h') : Wp mX12_rivals (kR fr M1 M2) Q (b1, b2) 0 [zR 98, zI l1, zI l2, x3, x4, x5, x6, x7, x8] [] 137 h := by
  refine s_fgt (fgt_c (fgt_c (fgt_c (fgt_n _ (fgt_n _ (fgt_n _ (fgt_n _ (fgt_n _ (fgt_n _ fgt_0))))))))) ?_
  refine s_aload_n (x := 98) dX12_rivals_0 rfl ?_
  refine s_iconst dX12_rivals_1 ?_
  refine s_put (c := 98) dX12_rivals_2 lX12_136 e98 ?_
  refine s_aload_n (x := 98) dX12_rivals_5 rfl ?_
  refine s_iload_n (x := l2) dX12_rivals_6 rfl ?_
  refine s_iconst dX12_rivals_7 ?_
  refine s_iconst dX12_rivals_8 ?_
  exact s_callS (as := [zI l2, zI 0, zI 5]) (st := [zR 98]) dX12_rivals_9 kX12_301 rfl rfl (Nat.le_of_ble_eq_true rfl) hS (show fr - 1 + 1 ≤ fr by omega) (Nat.zero_le _) (Nat.zero_le _) (fun v n' h' hP _ => by obtain ⟨x, e, rfl, hR⟩ := hP; cases e; exact kk x h' hR) (fun E n' h' _ z => (rI_nt _ _ _ z).elim)
theorem bX12_rivals_12 {fr M1 M2 b1 b2 : Nat} {Q : RS → Nat → AH → Prop} {h : AH} {l1 l2 s0 : Int} {x3 x4 x5 x6 x7 x8 : AV} {R : Int → AH → Prop}   (hS : Sp mX12_right true (fr - 1) 0 0 [zR 98, zI s0, zI 1] 137 h (rI R)) (hf : 1 ≤ fr := by omega) (kk : ∀ (x : Int) (h' : AH), R x h' → Wp mX12_rivals (kR fr M1 M2) Q (b1, b2) 16 [zR 98, zI l1, zI l2, none, none, none, none, none, none] [zI x] 137 h') : Wp mX12_rivals (kR fr M1 M2) Q (b1, b2) 12 [zR 98, zI l1, zI l2, x3, x4, x5, x6, x7, x8] [zI s0, zR 98] 137 h := by
  refine s_fgt (fgt_c (fgt_c (fgt_c (fgt_n _ (fgt_n _ (fgt_n _ (fgt_n _ (fgt_n _ (fgt_n _ fgt_0))))))))) ?_
  refine s_iconst dX12_rivals_12 ?_
  exact s_callV (as := [zI s0, zI 1]) (st := []) (o := 98) dX12_rivals_13 kX12_260 rfl ⟨12, 87, TX12, e98, rfl, by decide⟩ rfl rfl (Nat.le_of_ble_eq_true rfl) hS (show fr - 1 + 1 ≤ fr by omega) (Nat.zero_le _) (Nat.zero_le _) (fun v n' h' hP _ => by obtain ⟨x, e, rfl, hR⟩ := hP; cases e; exact kk x h' hR) (fun E n' h' _ z => (rI_nt _ _ _ z).elim)
theorem bX12_rivals_16 {fr M1 M2 b1 b2 : Nat} {Q : RS → Nat → AH → Prop} {h : AH} {l1 l2 s0 : Int} {x3 x4 x5 x6 x7 x8 : AV}  (r1 : -2147483648 ≤ s0 ∧ s0 < 2147483648 := by omega) (kt : s0 = 0 → Wp mX12_rivals (kR fr M1 M2) Q (b1, b2) 34 [zR 98, zI l1, zI l2, none, none, none, none, none, none] [] 137 h) (kf : ¬ s0 = 0 → Wp mX12_rivals (kR fr M1 M2) Q (b1, b2) 19 [zR 98, zI l1, zI l2, none, none, none, none, none, none] [] 137 h) : Wp mX12_rivals (kR fr M1 M2) Q (b1, b2) 16 [zR 98, zI l1, zI l2, x3, x4, x5, x6, x7, x8] [zI s0] 137 h := by
  refine s_fgt (fgt_c (fgt_c (fgt_c (fgt_n _ (fgt_n _ (fgt_n _ (fgt_n _ (fgt_n _ (fgt_n _ fgt_0))))))))) ?_
  exact s_if_eq (tgt := 34) dX12_rivals_16 (by decide) r1 kt kf
theorem bX12_rivals_19 {fr M1 M2 b1 b2 : Nat} {Q : RS → Nat → AH → Prop} {h : AH} {l1 l2 : Int} {x3 x4 x5 x6 x7 x8 : AV} {R : Int → AH → Prop}   (hS : Sp mX12_within true (fr - 1) 0 0 [zI l1, zI 1, zI 100] 137 h (rI R)) (hf : 1 ≤ fr := by omega) (kk : ∀ (x : Int) (h' : AH), R x h' → Wp mX12_rivals (kR fr M1 M2) Q (b1, b2) 27 [zR 98, zI l1, zI l2, none, none, none, none, none, none] [zI x, zR 98] 137 h') : Wp mX12_rivals (kR fr M1 M2) Q (b1, b2) 19 [zR 98, zI l1, zI l2, x3, x4, x5, x6, x7, x8] [] 137 h := by
  refine s_fgt (fgt_c (fgt_c (fgt_c (fgt_n _ (fgt_n _ (fgt_n _ (fgt_n _ (fgt_n _ (fgt_n _ fgt_0))))))))) ?_
  refine s_aload_n (x := 98) dX12_rivals_19 rfl ?_
  refine s_iload_n (x := l1) dX12_rivals_20 rfl ?_
  refine s_iconst dX12_rivals_21 ?_
  refine s_bipush dX12_rivals_22 (by decide) ?_
  exact s_callS (as := [zI l1, zI 1, zI 100]) (st := [zR 98]) dX12_rivals_24 kX12_301 rfl rfl (Nat.le_of_ble_eq_true rfl) hS (show fr - 1 + 1 ≤ fr by omega) (Nat.zero_le _) (Nat.zero_le _) (fun v n' h' hP _ => by obtain ⟨x, e, rfl, hR⟩ := hP; cases e; exact kk x h' hR) (fun E n' h' _ z => (rI_nt _ _ _ z).elim)
theorem bX12_rivals_27 {fr M1 M2 b1 b2 : Nat} {Q : RS → Nat → AH → Prop} {h : AH} {l1 l2 s0 : Int} {x3 x4 x5 x6 x7 x8 : AV} {R : Int → AH → Prop}   (hS : Sp mX12_right true (fr - 1) 0 0 [zR 98, zI s0, zI 2] 137 h (rI R)) (hf : 1 ≤ fr := by omega) (kk : ∀ (x : Int) (h' : AH), R x h' → Wp mX12_rivals (kR fr M1 M2) Q (b1, b2) 31 [zR 98, zI l1, zI l2, none, none, none, none, none, none] [zI x] 137 h') : Wp mX12_rivals (kR fr M1 M2) Q (b1, b2) 27 [zR 98, zI l1, zI l2, x3, x4, x5, x6, x7, x8] [zI s0, zR 98] 137 h := by
  refine s_fgt (fgt_c (fgt_c (fgt_c (fgt_n _ (fgt_n _ (fgt_n _ (fgt_n _ (fgt_n _ (fgt_n _ fgt_0))))))))) ?_
  refine s_iconst dX12_rivals_27 ?_
  exact s_callV (as := [zI s0, zI 2]) (st := []) (o := 98) dX12_rivals_28 kX12_260 rfl ⟨12, 87, TX12, e98, rfl, by decide⟩ rfl rfl (Nat.le_of_ble_eq_true rfl) hS (show fr - 1 + 1 ≤ fr by omega) (Nat.zero_le _) (Nat.zero_le _) (fun v n' h' hP _ => by obtain ⟨x, e, rfl, hR⟩ := hP; cases e; exact kk x h' hR) (fun E n' h' _ z => (rI_nt _ _ _ z).elim)
theorem bX12_rivals_31 {fr M1 M2 b1 b2 : Nat} {Q : RS → Nat → AH → Prop} {h : AH} {l1 l2 s0 : Int} {x3 x4 x5 x6 x7 x8 : AV}  (r1 : -2147483648 ≤ s0 ∧ s0 < 2147483648 := by omega) (kt : ¬ s0 = 0 → Wp mX12_rivals (kR fr M1 M2) Q (b1, b2) 36 [zR 98, zI l1, zI l2, none, none, none, none, none, none] [] 137 h) (kf : s0 = 0 → Wp mX12_rivals (kR fr M1 M2) Q (b1, b2) 34 [zR 98, zI l1, zI l2, none, none, none, none, none, none] [] 137 h) : Wp mX12_rivals (kR fr M1 M2) Q (b1, b2) 31 [zR 98, zI l1, zI l2, x3, x4, x5, x6, x7, x8] [zI s0] 137 h := by
  refine s_fgt (fgt_c (fgt_c (fgt_c (fgt_n _ (fgt_n _ (fgt_n _ (fgt_n _ (fgt_n _ (fgt_n _ fgt_0))))))))) ?_
  exact s_if_ne (tgt := 36) dX12_rivals_31 (by decide) r1 kt kf
theorem bX12_rivals_34 {fr M1 M2 b1 b2 : Nat} {Q : RS → Nat → AH → Prop} {h : AH} {x0 x1 x2 x3 x4 x5 x6 x7 x8 : AV}   (hq : Q (.inl (some (zI 0))) 137 h) : Wp mX12_rivals (kR fr M1 M2) Q (b1, b2) 34 [x0, x1, x2, x3, x4, x5, x6, x7, x8] [] 137 h := by
  refine s_fgt (fgt_n _ (fgt_n _ (fgt_n _ (fgt_n _ (fgt_n _ (fgt_n _ (fgt_n _ (fgt_n _ (fgt_n _ fgt_0))))))))) ?_
  refine s_iconst dX12_rivals_34 ?_
  exact s_ireturn dX12_rivals_35 ⟨.int, rfl, rfl⟩ hq (fun z => by cases z)
theorem bX12_rivals_36 {fr M1 M2 b1 b2 : Nat} {Q : RS → Nat → AH → Prop} {h : AH} {l1 l2 : Int} {x3 x4 x5 x6 x7 x8 : AV} {R : AH → Prop}   (hS : Sp mX12_finds true (fr - 1) 0 0 [zR 98, zI l1] 137 h (rV R)) (hf : 1 ≤ fr := by omega) (kk : ∀ h' : AH, R h' → Wp mX12_rivals (kR fr M1 M2) Q (b1, b2) 41 [zR 98, zI l1, zI l2, none, none, none, none, none, none] [] 137 h') : Wp mX12_rivals (kR fr M1 M2) Q (b1, b2) 36 [zR 98, zI l1, zI l2, x3, x4, x5, x6, x7, x8] [] 137 h := by
  refine s_fgt (fgt_c (fgt_c (fgt_c (fgt_n _ (fgt_n _ (fgt_n _ (fgt_n _ (fgt_n _ (fgt_n _ fgt_0))))))))) ?_
  refine s_aload_n (x := 98) dX12_rivals_36 rfl ?_
  refine s_iload_n (x := l1) dX12_rivals_37 rfl ?_
  exact s_callV (as := [zI l1]) (st := []) (o := 98) dX12_rivals_38 kX12_441 rfl ⟨12, 87, TX12, e98, rfl, by decide⟩ rfl rfl (Nat.le_of_ble_eq_true rfl) hS (show fr - 1 + 1 ≤ fr by omega) (Nat.zero_le _) (Nat.zero_le _) (fun v n' h' hP _ => by obtain ⟨e, rfl, hR⟩ := hP; cases e; exact kk h' hR) (fun E n' h' _ z => (rV_nt _ _ _ z).elim)
theorem bX12_rivals_41 {fr M1 M2 b1 b2 : Nat} {Q : RS → Nat → AH → Prop} {h : AH} {l1 l2 : Int} {x3 x4 x5 x6 x7 x8 : AV}  (r1 : -2147483648 ≤ h 98 72 ∧ h 98 72 < 2147483648 := by omega) (kt : ¬ h 98 72 = 0 → Wp mX12_rivals (kR fr M1 M2) Q (b1, b2) 52 [zR 98, zI l1, zI l2, none, none, none, none, none, none] [] 137 h) (kf : h 98 72 = 0 → Wp mX12_rivals (kR fr M1 M2) Q (b1, b2) 48 [zR 98, zI l1, zI l2, none, none, none, none, none, none] [] 137 h) : Wp mX12_rivals (kR fr M1 M2) Q (b1, b2) 41 [zR 98, zI l1, zI l2, x3, x4, x5, x6, x7, x8] [] 137 h := by
  refine s_fgt (fgt_c (fgt_c (fgt_c (fgt_n _ (fgt_n _ (fgt_n _ (fgt_n _ (fgt_n _ (fgt_n _ fgt_0))))))))) ?_
  refine s_aload_n (x := 98) dX12_rivals_41 rfl ?_
  refine s_get (c := 98) dX12_rivals_42 lX12_427 e98 (by decide) ?_
  exact s_if_ne (tgt := 52) dX12_rivals_45 (by decide) r1 kt kf
theorem bX12_rivals_48 {fr M1 M2 b1 b2 : Nat} {Q : RS → Nat → AH → Prop} {h : AH} {l1 l2 : Int} {x3 x4 x5 x6 x7 x8 : AV}   (kk : Wp mX12_rivals (kR fr M1 M2) Q (b1, b2) 55 [zR 98, zI l1, zI l2, none, none, none, none, none, none] [zI 0] 137 h) : Wp mX12_rivals (kR fr M1 M2) Q (b1, b2) 48 [zR 98, zI l1, zI l2, x3, x4, x5, x6, x7, x8] [] 137 h := by
  refine s_fgt (fgt_c (fgt_c (fgt_c (fgt_n _ (fgt_n _ (fgt_n _ (fgt_n _ (fgt_n _ (fgt_n _ fgt_0))))))))) ?_
  refine s_iconst dX12_rivals_48 ?_
  exact s_goto (tgt := 55) dX12_rivals_49 (by decide) kk
theorem bX12_rivals_52 {fr M1 M2 b1 b2 : Nat} {Q : RS → Nat → AH → Prop} {h : AH} {l1 l2 : Int} {x3 x4 x5 x6 x7 x8 : AV}   (kk : Wp mX12_rivals (kR fr M1 M2) Q (b1, b2) 55 [zR 98, zI l1, zI l2, none, none, none, none, none, none] [zI 1048575] 137 h) : Wp mX12_rivals (kR fr M1 M2) Q (b1, b2) 52 [zR 98, zI l1, zI l2, x3, x4, x5, x6, x7, x8] [] 137 h := by
  refine s_fgt (fgt_c (fgt_c (fgt_c (fgt_n _ (fgt_n _ (fgt_n _ (fgt_n _ (fgt_n _ (fgt_n _ fgt_0))))))))) ?_
  refine s_ldc_w (v := 1048575) dX12_rivals_52 wd1869 ?_
  exact kk
theorem bX12_rivals_55 {fr M1 M2 b1 b2 : Nat} {Q : RS → Nat → AH → Prop} {h : AH} {l1 l2 s0 : Int} {x3 x4 x5 x6 x7 x8 : AV}   (kk : Wp mX12_rivals (kR fr M1 M2) Q (b1, b2) 62 [zR 98, zI l1, zI l2, zI s0, zI 0, zI 0, none, none, none] [] 137 h) : Wp mX12_rivals (kR fr M1 M2) Q (b1, b2) 55 [zR 98, zI l1, zI l2, x3, x4, x5, x6, x7, x8] [zI s0] 137 h := by
  refine s_fgt (fgt_c (fgt_c (fgt_c (fgt_n _ (fgt_n _ (fgt_n _ (fgt_n _ (fgt_n _ (fgt_n _ fgt_0))))))))) ?_
  refine s_istore_n dX12_rivals_55 rfl (by decide) ?_
  refine s_iconst dX12_rivals_56 ?_
  refine s_istore dX12_rivals_57 rfl (by decide) ?_
  refine s_iconst dX12_rivals_59 ?_
  refine s_istore dX12_rivals_60 rfl (by decide) ?_
  exact kk
theorem bX12_rivals_62 {fr M1 M2 b1 b2 : Nat} {Q : RS → Nat → AH → Prop} {h : AH} {l1 l2 l3 l4 l5 : Int} {x6 x7 x8 : AV}  (r1 : -2147483648 ≤ l5 ∧ l5 < 2147483648 := by omega) (r2 : -2147483648 ≤ h 98 72 ∧ h 98 72 < 2147483648 := by omega) (kt : h 98 72 ≤ l5 → Wp mX12_rivals (kR fr M1 M2) Q (b1, b2) 99 [zR 98, zI l1, zI l2, zI l3, zI l4, zI l5, none, none, none] [] 137 h) (kf : l5 < h 98 72 → Wp mX12_rivals (kR fr M1 M2) Q (b1, b2) 71 [zR 98, zI l1, zI l2, zI l3, zI l4, zI l5, none, none, none] [] 137 h) : Wp mX12_rivals (kR fr M1 M2) Q (b1, b2) 62 [zR 98, zI l1, zI l2, zI l3, zI l4, zI l5, x6, x7, x8] [] 137 h := by
  refine s_fgt (fgt_c (fgt_c (fgt_c (fgt_c (fgt_c (fgt_c (fgt_n _ (fgt_n _ (fgt_n _ fgt_0))))))))) ?_
  refine s_iload (x := l5) dX12_rivals_62 rfl ?_
  refine s_aload_n (x := 98) dX12_rivals_64 rfl ?_
  refine s_get (c := 98) dX12_rivals_65 lX12_427 e98 (by decide) ?_
  exact s_icmp_ge (tgt := 99) dX12_rivals_68 (by decide) r1 r2 kt kf
theorem bX12_rivals_71 {fr M1 M2 b1 b2 : Nat} {Q : RS → Nat → AH → Prop} {h : AH} {l1 l2 l3 l4 l5 : Int} {x6 x7 x8 : AV}  (r1 : 0 ≤ l5 ∧ l5 < 1351 := by omega) (kk : Wp mX12_rivals (kR fr M1 M2) Q (b1, b2) 62 [zR 98, zI l1, zI l2, zI (bAnd l3 (h 125 l5)), zI (bOr l4 (h 125 l5)), zI (l5 + 1), none, none, none] [] 137 h) : Wp mX12_rivals (kR fr M1 M2) Q (b1, b2) 71 [zR 98, zI l1, zI l2, zI l3, zI l4, zI l5, x6, x7, x8] [] 137 h := by
  refine s_fgt (fgt_c (fgt_c (fgt_c (fgt_c (fgt_c (fgt_c (fgt_n _ (fgt_n _ (fgt_n _ fgt_0))))))))) ?_
  refine s_iload_n (x := l3) dX12_rivals_71 rfl ?_
  refine s_aload_n (x := 98) dX12_rivals_72 rfl ?_
  refine s_getFd (c := 98) (d := 125) dX12_rivals_73 lX12_98 e98 (Or.inl rfl) (by decide) (by decide) ?_
  refine s_iload (x := l5) dX12_rivals_76 rfl ?_
  refine s_iald (c := 125) (i := l5) dX12_rivals_78 e125 r1.1 r1.2 ?_
  refine s_iand dX12_rivals_79 ?_
  refine s_istore_n dX12_rivals_80 rfl (by decide) ?_
  refine s_iload (x := l4) dX12_rivals_81 rfl ?_
  refine s_aload_n (x := 98) dX12_rivals_83 rfl ?_
  refine s_getFd (c := 98) (d := 125) dX12_rivals_84 lX12_98 e98 (Or.inl rfl) (by decide) (by decide) ?_
  refine s_iload (x := l5) dX12_rivals_87 rfl ?_
  refine s_iald (c := 125) (i := l5) dX12_rivals_89 e125 r1.1 r1.2 ?_
  refine s_ior dX12_rivals_90 ?_
  refine s_istore dX12_rivals_91 rfl (by decide) ?_
  refine s_iinc (x := l5) dX12_rivals_93 rfl rfl (by decide) ?_
  exact s_goto (tgt := 62) dX12_rivals_96 (by decide) kk
theorem bX12_rivals_99 {fr M1 M2 b1 b2 : Nat} {Q : RS → Nat → AH → Prop} {h : AH} {l1 l2 l3 l4 : Int} {x5 x6 x7 x8 : AV}  (r1 : -2147483648 ≤ l2 ∧ l2 < 2147483648 := by omega) (kt : 4 ≤ l2 → Wp mX12_rivals (kR fr M1 M2) Q (b1, b2) 152 [zR 98, zI l1, zI l2, zI l3, zI l4, none, none, none, none] [] 137 h) (kf : l2 < 4 → Wp mX12_rivals (kR fr M1 M2) Q (b1, b2) 104 [zR 98, zI l1, zI l2, zI l3, zI l4, none, none, none, none] [] 137 h) : Wp mX12_rivals (kR fr M1 M2) Q (b1, b2) 99 [zR 98, zI l1, zI l2, zI l3, zI l4, x5, x6, x7, x8] [] 137 h := by
  refine s_fgt (fgt_c (fgt_c (fgt_c (fgt_c (fgt_c (fgt_n _ (fgt_n _ (fgt_n _ (fgt_n _ fgt_0))))))))) ?_
  refine s_iload_n (x := l2) dX12_rivals_99 rfl ?_
  refine s_iconst dX12_rivals_100 ?_
  exact s_icmp_ge (tgt := 152) dX12_rivals_101 (by decide) r1 ⟨by decide, by decide⟩ kt kf
theorem bX12_rivals_104 {fr M1 M2 b1 b2 : Nat} {Q : RS → Nat → AH → Prop} {h : AH} {l2 l3 l4 : Int} {x1 x5 x6 x7 x8 : AV}  (r1 : -2147483648 ≤ l2 ∧ l2 < 2147483648 := by omega) (kt : ¬ l2 = 0 → Wp mX12_rivals (kR fr M1 M2) Q (b1, b2) 115 [zR 98, none, zI l2, zI l3, zI l4, none, none, none, none] [] 137 h) (kf : l2 = 0 → Wp mX12_rivals (kR fr M1 M2) Q (b1, b2) 108 [zR 98, none, zI l2, zI l3, zI l4, none, none, none, none] [] 137 h) : Wp mX12_rivals (kR fr M1 M2) Q (b1, b2) 104 [zR 98, x1, zI l2, zI l3, zI l4, x5, x6, x7, x8] [] 137 h := by
  refine s_fgt (fgt_c (fgt_n _ (fgt_c (fgt_c (fgt_c (fgt_n _ (fgt_n _ (fgt_n _ (fgt_n _ fgt_0))))))))) ?_
  refine s_iload_n (x := l2) dX12_rivals_104 rfl ?_
  exact s_if_ne (tgt := 115) dX12_rivals_105 (by decide) r1 kt kf
theorem bX12_rivals_108 {fr M1 M2 b1 b2 : Nat} {Q : RS → Nat → AH → Prop} {h : AH} {x1 x2 x3 x4 x5 x6 x7 x8 : AV}   (kk : Wp mX12_rivals (kR fr M1 M2) Q (b1, b2) 151 [zR 98, none, none, none, none, none, none, none, none] [zI (h 98 72)] 137 h) : Wp mX12_rivals (kR fr M1 M2) Q (b1, b2) 108 [zR 98, x1, x2, x3, x4, x5, x6, x7, x8] [] 137 h := by
  refine s_fgt (fgt_c (fgt_n _ (fgt_n _ (fgt_n _ (fgt_n _ (fgt_n _ (fgt_n _ (fgt_n _ (fgt_n _ fgt_0))))))))) ?_
  refine s_aload_n (x := 98) dX12_rivals_108 rfl ?_
  refine s_get (c := 98) dX12_rivals_109 lX12_427 e98 (by decide) ?_
  exact s_goto (tgt := 151) dX12_rivals_112 (by decide) kk
theorem bX12_rivals_115 {fr M1 M2 b1 b2 : Nat} {Q : RS → Nat → AH → Prop} {h : AH} {l2 l3 l4 : Int} {x1 x5 x6 x7 x8 : AV}  (r1 : -2147483648 ≤ l2 ∧ l2 < 2147483648 := by omega) (kt : ¬ l2 = 1 → Wp mX12_rivals (kR fr M1 M2) Q (b1, b2) 124 [zR 98, none, zI l2, zI l3, zI l4, none, none, none, none] [] 137 h) (kf : l2 = 1 → Wp mX12_rivals (kR fr M1 M2) Q (b1, b2) 120 [zR 98, none, zI l2, zI l3, zI l4, none, none, none, none] [] 137 h) : Wp mX12_rivals (kR fr M1 M2) Q (b1, b2) 115 [zR 98, x1, zI l2, zI l3, zI l4, x5, x6, x7, x8] [] 137 h := by
  refine s_fgt (fgt_c (fgt_n _ (fgt_c (fgt_c (fgt_c (fgt_n _ (fgt_n _ (fgt_n _ (fgt_n _ fgt_0))))))))) ?_
  refine s_iload_n (x := l2) dX12_rivals_115 rfl ?_
  refine s_iconst dX12_rivals_116 ?_
  exact s_icmp_ne (tgt := 124) dX12_rivals_117 (by decide) r1 ⟨by decide, by decide⟩ kt kf
theorem bX12_rivals_120 {fr M1 M2 b1 b2 : Nat} {Q : RS → Nat → AH → Prop} {h : AH} {l3 : Int} {x0 x1 x2 x4 x5 x6 x7 x8 : AV}   (kk : Wp mX12_rivals (kR fr M1 M2) Q (b1, b2) 151 [none, none, none, zI l3, none, none, none, none, none] [zI l3] 137 h) : Wp mX12_rivals (kR fr M1 M2) Q (b1, b2) 120 [x0, x1, x2, zI l3, x4, x5, x6, x7, x8] [] 137 h := by
  refine s_fgt (fgt_n _ (fgt_n _ (fgt_n _ (fgt_c (fgt_n _ (fgt_n _ (fgt_n _ (fgt_n _ (fgt_n _ fgt_0))))))))) ?_
  refine s_iload_n (x := l3) dX12_rivals_120 rfl ?_
  exact s_goto (tgt := 151) dX12_rivals_121 (by decide) kk
theorem bX12_rivals_124 {fr M1 M2 b1 b2 : Nat} {Q : RS → Nat → AH → Prop} {h : AH} {l2 l4 : Int} {x1 x3 x5 x6 x7 x8 : AV}  (r1 : -2147483648 ≤ l2 ∧ l2 < 2147483648 := by omega) (kt : ¬ l2 = 2 → Wp mX12_rivals (kR fr M1 M2) Q (b1, b2) 134 [zR 98, none, zI l2, none, zI l4, none, none, none, none] [] 137 h) (kf : l2 = 2 → Wp mX12_rivals (kR fr M1 M2) Q (b1, b2) 129 [zR 98, none, zI l2, none, zI l4, none, none, none, none] [] 137 h) : Wp mX12_rivals (kR fr M1 M2) Q (b1, b2) 124 [zR 98, x1, zI l2, x3, zI l4, x5, x6, x7, x8] [] 137 h := by
  refine s_fgt (fgt_c (fgt_n _ (fgt_c (fgt_n _ (fgt_c (fgt_n _ (fgt_n _ (fgt_n _ (fgt_n _ fgt_0))))))))) ?_
  refine s_iload_n (x := l2) dX12_rivals_124 rfl ?_
  refine s_iconst dX12_rivals_125 ?_
  exact s_icmp_ne (tgt := 134) dX12_rivals_126 (by decide) r1 ⟨by decide, by decide⟩ kt kf
theorem bX12_rivals_129 {fr M1 M2 b1 b2 : Nat} {Q : RS → Nat → AH → Prop} {h : AH} {l4 : Int} {x0 x1 x2 x3 x5 x6 x7 x8 : AV}   (kk : Wp mX12_rivals (kR fr M1 M2) Q (b1, b2) 151 [none, none, none, none, zI l4, none, none, none, none] [zI l4] 137 h) : Wp mX12_rivals (kR fr M1 M2) Q (b1, b2) 129 [x0, x1, x2, x3, zI l4, x5, x6, x7, x8] [] 137 h := by
  refine s_fgt (fgt_n _ (fgt_n _ (fgt_n _ (fgt_n _ (fgt_c (fgt_n _ (fgt_n _ (fgt_n _ (fgt_n _ fgt_0))))))))) ?_
  refine s_iload (x := l4) dX12_rivals_129 rfl ?_
  exact s_goto (tgt := 151) dX12_rivals_131 (by decide) kk
theorem bX12_rivals_134 {fr M1 M2 b1 b2 : Nat} {Q : RS → Nat → AH → Prop} {h : AH} {x1 x2 x3 x4 x5 x6 x7 x8 : AV}  (r1 : -2147483648 ≤ h 98 72 ∧ h 98 72 < 2147483648 := by omega) (kt : ¬ h 98 72 = 0 → Wp mX12_rivals (kR fr M1 M2) Q (b1, b2) 145 [zR 98, none, none, none, none, none, none, none, none] [] 137 h) (kf : h 98 72 = 0 → Wp mX12_rivals (kR fr M1 M2) Q (b1, b2) 141 [zR 98, none, none, none, none, none, none, none, none] [] 137 h) : Wp mX12_rivals (kR fr M1 M2) Q (b1, b2) 134 [zR 98, x1, x2, x3, x4, x5, x6, x7, x8] [] 137 h := by
  refine s_fgt (fgt_c (fgt_n _ (fgt_n _ (fgt_n _ (fgt_n _ (fgt_n _ (fgt_n _ (fgt_n _ (fgt_n _ fgt_0))))))))) ?_
  refine s_aload_n (x := 98) dX12_rivals_134 rfl ?_
  refine s_get (c := 98) dX12_rivals_135 lX12_427 e98 (by decide) ?_
  exact s_if_ne (tgt := 145) dX12_rivals_138 (by decide) r1 kt kf
theorem bX12_rivals_141 {fr M1 M2 b1 b2 : Nat} {Q : RS → Nat → AH → Prop} {h : AH} {x0 x1 x2 x3 x4 x5 x6 x7 x8 : AV}   (kk : Wp mX12_rivals (kR fr M1 M2) Q (b1, b2) 151 [none, none, none, none, none, none, none, none, none] [zI (-1)] 137 h) : Wp mX12_rivals (kR fr M1 M2) Q (b1, b2) 141 [x0, x1, x2, x3, x4, x5, x6, x7, x8] [] 137 h := by
  refine s_fgt (fgt_n _ (fgt_n _ (fgt_n _ (fgt_n _ (fgt_n _ (fgt_n _ (fgt_n _ (fgt_n _ (fgt_n _ fgt_0))))))))) ?_
  refine s_iconst dX12_rivals_141 ?_
  exact s_goto (tgt := 151) dX12_rivals_142 (by decide) kk
theorem bX12_rivals_145 {fr M1 M2 b1 b2 : Nat} {Q : RS → Nat → AH → Prop} {h : AH} {x1 x2 x3 x4 x5 x6 x7 x8 : AV}   (kk : Wp mX12_rivals (kR fr M1 M2) Q (b1, b2) 151 [zR 98, none, none, none, none, none, none, none, none] [zI (h 125 0)] 137 h) : Wp mX12_rivals (kR fr M1 M2) Q (b1, b2) 145 [zR 98, x1, x2, x3, x4, x5, x6, x7, x8] [] 137 h := by
  refine s_fgt (fgt_c (fgt_n _ (fgt_n _ (fgt_n _ (fgt_n _ (fgt_n _ (fgt_n _ (fgt_n _ (fgt_n _ fgt_0))))))))) ?_
  refine s_aload_n (x := 98) dX12_rivals_145 rfl ?_
  refine s_getFd (c := 98) (d := 125) dX12_rivals_146 lX12_98 e98 (Or.inl rfl) (by decide) (by decide) ?_
  refine s_iconst dX12_rivals_149 ?_
  refine s_iald (c := 125) (i := 0) dX12_rivals_150 e125 (by decide) (by decide) ?_
  exact kk
theorem bX12_rivals_151 {fr M1 M2 b1 b2 : Nat} {Q : RS → Nat → AH → Prop} {h : AH} {s0 : Int} {x0 x1 x2 x3 x4 x5 x6 x7 x8 : AV}   (hq : Q (.inl (some (zI s0))) 137 h) : Wp mX12_rivals (kR fr M1 M2) Q (b1, b2) 151 [x0, x1, x2, x3, x4, x5, x6, x7, x8] [zI s0] 137 h := by
  refine s_fgt (fgt_n _ (fgt_n _ (fgt_n _ (fgt_n _ (fgt_n _ (fgt_n _ (fgt_n _ (fgt_n _ (fgt_n _ fgt_0))))))))) ?_
  exact s_ireturn dX12_rivals_151 ⟨.int, rfl, rfl⟩ hq (fun z => by cases z)
theorem bX12_rivals_152 {fr M1 M2 b1 b2 : Nat} {Q : RS → Nat → AH → Prop} {h : AH} {l1 l2 : Int} {x3 x4 x5 x6 x7 x8 : AV}   (kk : Wp mX12_rivals (kR fr M1 M2) Q (b1, b2) 161 [zR 98, zI l1, zI l2, none, none, zI (-1), zI 0, zI 0, none] [] 137 h) : Wp mX12_rivals (kR fr M1 M2) Q (b1, b2) 152 [zR 98, zI l1, zI l2, x3, x4, x5, x6, x7, x8] [] 137 h := by
  refine s_fgt (fgt_c (fgt_c (fgt_c (fgt_n _ (fgt_n _ (fgt_n _ (fgt_n _ (fgt_n _ (fgt_n _ fgt_0))))))))) ?_
  refine s_iconst dX12_rivals_152 ?_
  refine s_istore dX12_rivals_153 rfl (by decide) ?_
  refine s_iconst dX12_rivals_155 ?_
  refine s_istore dX12_rivals_156 rfl (by decide) ?_
  refine s_iconst dX12_rivals_158 ?_
  refine s_istore dX12_rivals_159 rfl (by decide) ?_
  exact kk
theorem bX12_rivals_161 {fr M1 M2 b1 b2 : Nat} {Q : RS → Nat → AH → Prop} {h : AH} {l1 l2 l5 l6 l7 : Int} {x3 x4 x8 : AV}  (r1 : -2147483648 ≤ l7 ∧ l7 < 2147483648 := by omega) (r2 : -2147483648 ≤ h 98 1 ∧ h 98 1 < 2147483648 := by omega) (kt : h 98 1 ≤ l7 → Wp mX12_rivals (kR fr M1 M2) Q (b1, b2) 216 [zR 98, zI l1, zI l2, none, none, zI l5, zI l6, zI l7, none] [] 137 h) (kf : l7 < h 98 1 → Wp mX12_rivals (kR fr M1 M2) Q (b1, b2) 170 [zR 98, zI l1, zI l2, none, none, zI l5, zI l6, zI l7, none] [] 137 h) : Wp mX12_rivals (kR fr M1 M2) Q (b1, b2) 161 [zR 98, zI l1, zI l2, x3, x4, zI l5, zI l6, zI l7, x8] [] 137 h := by
  refine s_fgt (fgt_c (fgt_c (fgt_c (fgt_n _ (fgt_n _ (fgt_c (fgt_c (fgt_c (fgt_n _ fgt_0))))))))) ?_
  refine s_iload (x := l7) dX12_rivals_161 rfl ?_
  refine s_aload_n (x := 98) dX12_rivals_163 rfl ?_
  refine s_get (c := 98) dX12_rivals_164 lX12_267 e98 (by decide) ?_
  exact s_icmp_ge (tgt := 216) dX12_rivals_167 (by decide) r1 r2 kt kf
theorem bX12_rivals_170 {fr M1 M2 b1 b2 : Nat} {Q : RS → Nat → AH → Prop} {h : AH} {l1 l2 l5 l6 l7 : Int} {x3 x4 x8 : AV}  (r1 : -2147483648 ≤ h 98 72 ∧ h 98 72 < 2147483648 := by omega) (kt : h 98 72 ≤ 0 → Wp mX12_rivals (kR fr M1 M2) Q (b1, b2) 216 [zR 98, zI l1, zI l2, none, none, zI l5, zI l6, zI l7, none] [] 137 h) (kf : 0 < h 98 72 → Wp mX12_rivals (kR fr M1 M2) Q (b1, b2) 177 [zR 98, zI l1, zI l2, none, none, zI l5, zI l6, zI l7, none] [] 137 h) : Wp mX12_rivals (kR fr M1 M2) Q (b1, b2) 170 [zR 98, zI l1, zI l2, x3, x4, zI l5, zI l6, zI l7, x8] [] 137 h := by
  refine s_fgt (fgt_c (fgt_c (fgt_c (fgt_n _ (fgt_n _ (fgt_c (fgt_c (fgt_c (fgt_n _ fgt_0))))))))) ?_
  refine s_aload_n (x := 98) dX12_rivals_170 rfl ?_
  refine s_get (c := 98) dX12_rivals_171 lX12_427 e98 (by decide) ?_
  exact s_if_le (tgt := 216) dX12_rivals_174 (by decide) r1 kt kf
theorem bX12_rivals_177 {fr M1 M2 b1 b2 : Nat} {Q : RS → Nat → AH → Prop} {h : AH} {l1 l2 l5 l6 l7 : Int} {x3 x4 x8 : AV} {R : Int → AH → Prop}   (hS : Sp mX12_group true (fr - 1) 0 0 [zR 98, zI l7, zI l1] 137 h (rI R)) (hf : 1 ≤ fr := by omega) (kk : ∀ (x : Int) (h' : AH), R x h' → Wp mX12_rivals (kR fr M1 M2) Q (b1, b2) 184 [zR 98, zI l1, zI l2, none, none, zI l5, zI l6, zI l7, none] [zI x] 137 h') : Wp mX12_rivals (kR fr M1 M2) Q (b1, b2) 177 [zR 98, zI l1, zI l2, x3, x4, zI l5, zI l6, zI l7, x8] [] 137 h := by
  refine s_fgt (fgt_c (fgt_c (fgt_c (fgt_n _ (fgt_n _ (fgt_c (fgt_c (fgt_c (fgt_n _ fgt_0))))))))) ?_
  refine s_aload_n (x := 98) dX12_rivals_177 rfl ?_
  refine s_iload (x := l7) dX12_rivals_178 rfl ?_
  refine s_iload_n (x := l1) dX12_rivals_180 rfl ?_
  exact s_callV (as := [zI l7, zI l1]) (st := []) (o := 98) dX12_rivals_181 kX12_445 rfl ⟨12, 87, TX12, e98, rfl, by decide⟩ rfl rfl (Nat.le_of_ble_eq_true rfl) hS (show fr - 1 + 1 ≤ fr by omega) (Nat.zero_le _) (Nat.zero_le _) (fun v n' h' hP _ => by obtain ⟨x, e, rfl, hR⟩ := hP; cases e; exact kk x h' hR) (fun E n' h' _ z => (rI_nt _ _ _ z).elim)
theorem bX12_rivals_184 {fr M1 M2 b1 b2 : Nat} {Q : RS → Nat → AH → Prop} {h : AH} {l1 l2 l5 l6 l7 s0 : Int} {x3 x4 x8 : AV}  (r1 : -2147483648 ≤ l5 ∧ l5 < 2147483648 := by omega) (kt : l5 = (-1) → Wp mX12_rivals (kR fr M1 M2) Q (b1, b2) 202 [zR 98, zI l1, zI l2, none, none, zI l5, zI l6, zI l7, zI s0] [] 137 h) (kf : ¬ l5 = (-1) → Wp mX12_rivals (kR fr M1 M2) Q (b1, b2) 192 [zR 98, zI l1, zI l2, none, none, zI l5, zI l6, zI l7, zI s0] [] 137 h) : Wp mX12_rivals (kR fr M1 M2) Q (b1, b2) 184 [zR 98, zI l1, zI l2, x3, x4, zI l5, zI l6, zI l7, x8] [zI s0] 137 h := by
  refine s_fgt (fgt_c (fgt_c (fgt_c (fgt_n _ (fgt_n _ (fgt_c (fgt_c (fgt_c (fgt_n _ fgt_0))))))))) ?_
  refine s_istore dX12_rivals_184 rfl (by decide) ?_
  refine s_iload (x := l5) dX12_rivals_186 rfl ?_
  refine s_iconst dX12_rivals_188 ?_
  exact s_icmp_eq (tgt := 202) dX12_rivals_189 (by decide) r1 ⟨by decide, by decide⟩ kt kf
theorem bX12_rivals_192 {fr M1 M2 b1 b2 : Nat} {Q : RS → Nat → AH → Prop} {h : AH} {l1 l2 l5 l6 l7 l8 : Int} {x3 x4 : AV}  (r1 : -2147483648 ≤ l8 ∧ l8 < 2147483648 := by omega) (r2 : -2147483648 ≤ l6 ∧ l6 < 2147483648 := by omega) (kt : l8 < l6 → Wp mX12_rivals (kR fr M1 M2) Q (b1, b2) 202 [zR 98, zI l1, zI l2, none, none, zI l5, zI l6, zI l7, zI l8] [] 137 h) (kf : l6 ≤ l8 → Wp mX12_rivals (kR fr M1 M2) Q (b1, b2) 199 [zR 98, zI l1, zI l2, none, none, zI l5, zI l6, zI l7, zI l8] [] 137 h) : Wp mX12_rivals (kR fr M1 M2) Q (b1, b2) 192 [zR 98, zI l1, zI l2, x3, x4, zI l5, zI l6, zI l7, zI l8] [] 137 h := by
  refine s_fgt (fgt_c (fgt_c (fgt_c (fgt_n _ (fgt_n _ (fgt_c (fgt_c (fgt_c (fgt_c fgt_0))))))))) ?_
  refine s_iload (x := l8) dX12_rivals_192 rfl ?_
  refine s_iload (x := l6) dX12_rivals_194 rfl ?_
  exact s_icmp_lt (tgt := 202) dX12_rivals_196 (by decide) r1 r2 kt kf
theorem bX12_rivals_199 {fr M1 M2 b1 b2 : Nat} {Q : RS → Nat → AH → Prop} {h : AH} {l1 l2 l5 l6 l7 : Int} {x3 x4 x8 : AV}   (kk : Wp mX12_rivals (kR fr M1 M2) Q (b1, b2) 210 [zR 98, zI l1, zI l2, none, none, zI l5, zI l6, zI l7, none] [] 137 h) : Wp mX12_rivals (kR fr M1 M2) Q (b1, b2) 199 [zR 98, zI l1, zI l2, x3, x4, zI l5, zI l6, zI l7, x8] [] 137 h := by
  refine s_fgt (fgt_c (fgt_c (fgt_c (fgt_n _ (fgt_n _ (fgt_c (fgt_c (fgt_c (fgt_n _ fgt_0))))))))) ?_
  exact s_goto (tgt := 210) dX12_rivals_199 (by decide) kk
theorem bX12_rivals_202 {fr M1 M2 b1 b2 : Nat} {Q : RS → Nat → AH → Prop} {h : AH} {l1 l2 l7 l8 : Int} {x3 x4 x5 x6 : AV}   (kk : Wp mX12_rivals (kR fr M1 M2) Q (b1, b2) 210 [zR 98, zI l1, zI l2, none, none, zI l7, zI l8, zI l7, zI l8] [] 137 h) : Wp mX12_rivals (kR fr M1 M2) Q (b1, b2) 202 [zR 98, zI l1, zI l2, x3, x4, x5, x6, zI l7, zI l8] [] 137 h := by
  refine s_fgt (fgt_c (fgt_c (fgt_c (fgt_n _ (fgt_n _ (fgt_n _ (fgt_n _ (fgt_c (fgt_c fgt_0))))))))) ?_
  refine s_iload (x := l7) dX12_rivals_202 rfl ?_
  refine s_istore dX12_rivals_204 rfl (by decide) ?_
  refine s_iload (x := l8) dX12_rivals_206 rfl ?_
  refine s_istore dX12_rivals_208 rfl (by decide) ?_
  exact kk
theorem bX12_rivals_210 {fr M1 M2 b1 b2 : Nat} {Q : RS → Nat → AH → Prop} {h : AH} {l1 l2 l5 l6 l7 : Int} {x3 x4 x8 : AV}   (kk : Wp mX12_rivals (kR fr M1 M2) Q (b1, b2) 161 [zR 98, zI l1, zI l2, none, none, zI l5, zI l6, zI (l7 + 1), none] [] 137 h) : Wp mX12_rivals (kR fr M1 M2) Q (b1, b2) 210 [zR 98, zI l1, zI l2, x3, x4, zI l5, zI l6, zI l7, x8] [] 137 h := by
  refine s_fgt (fgt_c (fgt_c (fgt_c (fgt_n _ (fgt_n _ (fgt_c (fgt_c (fgt_c (fgt_n _ fgt_0))))))))) ?_
  refine s_iinc (x := l7) dX12_rivals_210 rfl rfl (by decide) ?_
  exact s_goto (tgt := 161) dX12_rivals_213 (by decide) kk
theorem bX12_rivals_216 {fr M1 M2 b1 b2 : Nat} {Q : RS → Nat → AH → Prop} {h : AH} {l2 l5 l6 : Int} {x0 x1 x3 x4 x7 x8 : AV}  (r1 : -2147483648 ≤ l2 ∧ l2 < 2147483648 := by omega) (kt : ¬ l2 = 4 → Wp mX12_rivals (kR fr M1 M2) Q (b1, b2) 226 [none, none, zI l2, none, none, zI l5, zI l6, none, none] [] 137 h) (kf : l2 = 4 → Wp mX12_rivals (kR fr M1 M2) Q (b1, b2) 221 [none, none, zI l2, none, none, zI l5, zI l6, none, none] [] 137 h) : Wp mX12_rivals (kR fr M1 M2) Q (b1, b2) 216 [x0, x1, zI l2, x3, x4, zI l5, zI l6, x7, x8] [] 137 h := by
  refine s_fgt (fgt_n _ (fgt_n _ (fgt_c (fgt_n _ (fgt_n _ (fgt_c (fgt_c (fgt_n _ (fgt_n _ fgt_0))))))))) ?_
  refine s_iload_n (x := l2) dX12_rivals_216 rfl ?_
  refine s_iconst dX12_rivals_217 ?_
  exact s_icmp_ne (tgt := 226) dX12_rivals_218 (by decide) r1 ⟨by decide, by decide⟩ kt kf
theorem bX12_rivals_221 {fr M1 M2 b1 b2 : Nat} {Q : RS → Nat → AH → Prop} {h : AH} {l5 : Int} {x0 x1 x2 x3 x4 x6 x7 x8 : AV}   (kk : Wp mX12_rivals (kR fr M1 M2) Q (b1, b2) 228 [none, none, none, none, none, zI l5, none, none, none] [zI l5] 137 h) : Wp mX12_rivals (kR fr M1 M2) Q (b1, b2) 221 [x0, x1, x2, x3, x4, zI l5, x6, x7, x8] [] 137 h := by
  refine s_fgt (fgt_n _ (fgt_n _ (fgt_n _ (fgt_n _ (fgt_n _ (fgt_c (fgt_n _ (fgt_n _ (fgt_n _ fgt_0))))))))) ?_
  refine s_iload (x := l5) dX12_rivals_221 rfl ?_
  exact s_goto (tgt := 228) dX12_rivals_223 (by decide) kk
theorem bX12_rivals_226 {fr M1 M2 b1 b2 : Nat} {Q : RS → Nat → AH → Prop} {h : AH} {l6 : Int} {x0 x1 x2 x3 x4 x5 x7 x8 : AV}   (kk : Wp mX12_rivals (kR fr M1 M2) Q (b1, b2) 228 [none, none, none, none, none, none, zI l6, none, none] [zI l6] 137 h) : Wp mX12_rivals (kR fr M1 M2) Q (b1, b2) 226 [x0, x1, x2, x3, x4, x5, zI l6, x7, x8] [] 137 h := by
  refine s_fgt (fgt_n _ (fgt_n _ (fgt_n _ (fgt_n _ (fgt_n _ (fgt_n _ (fgt_c (fgt_n _ (fgt_n _ fgt_0))))))))) ?_
  refine s_iload (x := l6) dX12_rivals_226 rfl ?_
  exact kk
theorem bX12_rivals_228 {fr M1 M2 b1 b2 : Nat} {Q : RS → Nat → AH → Prop} {h : AH} {s0 : Int} {x0 x1 x2 x3 x4 x5 x6 x7 x8 : AV}   (hq : Q (.inl (some (zI s0))) 137 h) : Wp mX12_rivals (kR fr M1 M2) Q (b1, b2) 228 [x0, x1, x2, x3, x4, x5, x6, x7, x8] [zI s0] 137 h := by
  refine s_fgt (fgt_n _ (fgt_n _ (fgt_n _ (fgt_n _ (fgt_n _ (fgt_n _ (fgt_n _ (fgt_n _ (fgt_n _ fgt_0))))))))) ?_
  exact s_ireturn dX12_rivals_228 ⟨.int, rfl, rfl⟩ hq (fun z => by cases z)
theorem dX12_sayers_0 : decode mX12_sayers.cd 0 = .ok (.aload_n 0, 1) := by decide +kernel
theorem dX12_sayers_1 : decode mX12_sayers.cd 1 = .ok (.iconst 0, 1) := by decide +kernel
theorem dX12_sayers_2 : decode mX12_sayers.cd 2 = .ok (.putfield 136, 3) := by decide +kernel
theorem dX12_sayers_5 : decode mX12_sayers.cd 5 = .ok (.aload_n 0, 1) := by decide +kernel
theorem dX12_sayers_6 : decode mX12_sayers.cd 6 = .ok (.iload_n 1, 1) := by decide +kernel
theorem dX12_sayers_7 : decode mX12_sayers.cd 7 = .ok (.iconst 0, 1) := by decide +kernel
theorem dX12_sayers_8 : decode mX12_sayers.cd 8 = .ok (.iconst 2, 1) := by decide +kernel
theorem dX12_sayers_9 : decode mX12_sayers.cd 9 = .ok (.invokestatic 301, 3) := by decide +kernel
theorem dX12_sayers_12 : decode mX12_sayers.cd 12 = .ok (.iconst 1, 1) := by decide +kernel
theorem dX12_sayers_13 : decode mX12_sayers.cd 13 = .ok (.invokevirtual 260, 3) := by decide +kernel
theorem dX12_sayers_16 : decode mX12_sayers.cd 16 = .ok (.ifCond .ne 5, 3) := by decide +kernel
theorem dX12_sayers_19 : decode mX12_sayers.cd 19 = .ok (.iconst 0, 1) := by decide +kernel
theorem dX12_sayers_20 : decode mX12_sayers.cd 20 = .ok (.ireturn, 1) := by decide +kernel
theorem dX12_sayers_21 : decode mX12_sayers.cd 21 = .ok (.iconst 0, 1) := by decide +kernel
theorem dX12_sayers_22 : decode mX12_sayers.cd 22 = .ok (.istore_n 2, 1) := by decide +kernel
theorem dX12_sayers_23 : decode mX12_sayers.cd 23 = .ok (.iconst 0, 1) := by decide +kernel
theorem dX12_sayers_24 : decode mX12_sayers.cd 24 = .ok (.istore_n 3, 1) := by decide +kernel
theorem dX12_sayers_25 : decode mX12_sayers.cd 25 = .ok (.iload_n 3, 1) := by decide +kernel
theorem dX12_sayers_26 : decode mX12_sayers.cd 26 = .ok (.aload_n 0, 1) := by decide +kernel
theorem dX12_sayers_27 : decode mX12_sayers.cd 27 = .ok (.getfield 292, 3) := by decide +kernel
theorem dX12_sayers_30 : decode mX12_sayers.cd 30 = .ok (.if_icmp .ge 38, 3) := by decide +kernel
theorem dX12_sayers_33 : decode mX12_sayers.cd 33 = .ok (.iload_n 2, 1) := by decide +kernel
theorem dX12_sayers_34 : decode mX12_sayers.cd 34 = .ok (.bipush 14, 2) := by decide +kernel
theorem dX12_sayers_36 : decode mX12_sayers.cd 36 = .ok (.if_icmp .ge 32, 3) := by decide +kernel
theorem dX12_sayers_39 : decode mX12_sayers.cd 39 = .ok (.aload_n 0, 1) := by decide +kernel
theorem dX12_sayers_40 : decode mX12_sayers.cd 40 = .ok (.getfield 95, 3) := by decide +kernel
theorem dX12_sayers_43 : decode mX12_sayers.cd 43 = .ok (.iload_n 3, 1) := by decide +kernel
theorem dX12_sayers_44 : decode mX12_sayers.cd 44 = .ok (.iaload, 1) := by decide +kernel
theorem dX12_sayers_45 : decode mX12_sayers.cd 45 = .ok (.iconst (-1), 1) := by decide +kernel
theorem dX12_sayers_46 : decode mX12_sayers.cd 46 = .ok (.if_icmp .ne 6, 3) := by decide +kernel
theorem dX12_sayers_49 : decode mX12_sayers.cd 49 = .ok (.goto 13, 3) := by decide +kernel
theorem dX12_sayers_52 : decode mX12_sayers.cd 52 = .ok (.aload_n 0, 1) := by decide +kernel
theorem dX12_sayers_53 : decode mX12_sayers.cd 53 = .ok (.getfield 105, 3) := by decide +kernel
theorem dX12_sayers_56 : decode mX12_sayers.cd 56 = .ok (.iload_n 2, 1) := by decide +kernel
theorem dX12_sayers_57 : decode mX12_sayers.cd 57 = .ok (.iload_n 3, 1) := by decide +kernel
theorem dX12_sayers_58 : decode mX12_sayers.cd 58 = .ok (.iastore, 1) := by decide +kernel
theorem dX12_sayers_59 : decode mX12_sayers.cd 59 = .ok (.iinc 2 1, 3) := by decide +kernel
theorem dX12_sayers_62 : decode mX12_sayers.cd 62 = .ok (.iinc 3 1, 3) := by decide +kernel
theorem dX12_sayers_65 : decode mX12_sayers.cd 65 = .ok (.goto (-40), 3) := by decide +kernel
theorem dX12_sayers_68 : decode mX12_sayers.cd 68 = .ok (.iconst 0, 1) := by decide +kernel
theorem dX12_sayers_69 : decode mX12_sayers.cd 69 = .ok (.istore_n 3, 1) := by decide +kernel
theorem dX12_sayers_70 : decode mX12_sayers.cd 70 = .ok (.iconst (-1), 1) := by decide +kernel
theorem dX12_sayers_71 : decode mX12_sayers.cd 71 = .ok (.istore 4, 2) := by decide +kernel
theorem dX12_sayers_73 : decode mX12_sayers.cd 73 = .ok (.iconst (-1), 1) := by decide +kernel
theorem dX12_sayers_74 : decode mX12_sayers.cd 74 = .ok (.istore 5, 2) := by decide +kernel
theorem dX12_sayers_76 : decode mX12_sayers.cd 76 = .ok (.iconst 0, 1) := by decide +kernel
theorem dX12_sayers_77 : decode mX12_sayers.cd 77 = .ok (.istore 6, 2) := by decide +kernel
theorem dX12_sayers_79 : decode mX12_sayers.cd 79 = .ok (.iload 6, 2) := by decide +kernel
theorem dX12_sayers_81 : decode mX12_sayers.cd 81 = .ok (.iconst 1, 1) := by decide +kernel
theorem dX12_sayers_82 : decode mX12_sayers.cd 82 = .ok (.iload_n 2, 1) := by decide +kernel
theorem dX12_sayers_83 : decode mX12_sayers.cd 83 = .ok (.ishl, 1) := by decide +kernel
theorem dX12_sayers_84 : decode mX12_sayers.cd 84 = .ok (.if_icmp .ge 110, 3) := by decide +kernel
theorem dX12_sayers_87 : decode mX12_sayers.cd 87 = .ok (.aload_n 0, 1) := by decide +kernel
theorem dX12_sayers_88 : decode mX12_sayers.cd 88 = .ok (.bipush 60, 2) := by decide +kernel
theorem dX12_sayers_90 : decode mX12_sayers.cd 90 = .ok (.iconst 0, 1) := by decide +kernel
theorem dX12_sayers_91 : decode mX12_sayers.cd 91 = .ok (.bipush 12, 2) := by decide +kernel
theorem dX12_sayers_93 : decode mX12_sayers.cd 93 = .ok (.invokevirtual 328, 3) := by decide +kernel
theorem dX12_sayers_96 : decode mX12_sayers.cd 96 = .ok (.iconst 0, 1) := by decide +kernel
theorem dX12_sayers_97 : decode mX12_sayers.cd 97 = .ok (.istore 7, 2) := by decide +kernel
theorem dX12_sayers_99 : decode mX12_sayers.cd 99 = .ok (.iload 7, 2) := by decide +kernel
theorem dX12_sayers_101 : decode mX12_sayers.cd 101 = .ok (.iload_n 2, 1) := by decide +kernel
theorem dX12_sayers_102 : decode mX12_sayers.cd 102 = .ok (.if_icmp .ge 43, 3) := by decide +kernel
theorem dX12_sayers_105 : decode mX12_sayers.cd 105 = .ok (.iload 6, 2) := by decide +kernel
theorem dX12_sayers_107 : decode mX12_sayers.cd 107 = .ok (.iload 7, 2) := by decide +kernel
theorem dX12_sayers_109 : decode mX12_sayers.cd 109 = .ok (.ishr, 1) := by decide +kernel
theorem dX12_sayers_110 : decode mX12_sayers.cd 110 = .ok (.iconst 1, 1) := by decide +kernel
theorem dX12_sayers_111 : decode mX12_sayers.cd 111 = .ok (.iand, 1) := by decide +kernel
theorem dX12_sayers_112 : decode mX12_sayers.cd 112 = .ok (.iconst 1, 1) := by decide +kernel
theorem dX12_sayers_113 : decode mX12_sayers.cd 113 = .ok (.if_icmp .ne 26, 3) := by decide +kernel
theorem dX12_sayers_116 : decode mX12_sayers.cd 116 = .ok (.aload_n 0, 1) := by decide +kernel
theorem dX12_sayers_117 : decode mX12_sayers.cd 117 = .ok (.aload_n 0, 1) := by decide +kernel
theorem dX12_sayers_118 : decode mX12_sayers.cd 118 = .ok (.getfield 95, 3) := by decide +kernel
theorem dX12_sayers_121 : decode mX12_sayers.cd 121 = .ok (.aload_n 0, 1) := by decide +kernel
theorem dX12_sayers_122 : decode mX12_sayers.cd 122 = .ok (.getfield 105, 3) := by decide +kernel
theorem dX12_sayers_125 : decode mX12_sayers.cd 125 = .ok (.iload 7, 2) := by decide +kernel
theorem dX12_sayers_127 : decode mX12_sayers.cd 127 = .ok (.iaload, 1) := by decide +kernel
theorem dX12_sayers_128 : decode mX12_sayers.cd 128 = .ok (.iaload, 1) := by decide +kernel
theorem dX12_sayers_129 : decode mX12_sayers.cd 129 = .ok (.aload_n 0, 1) := by decide +kernel
theorem dX12_sayers_130 : decode mX12_sayers.cd 130 = .ok (.getfield 105, 3) := by decide +kernel
theorem dX12_sayers_133 : decode mX12_sayers.cd 133 = .ok (.iload 7, 2) := by decide +kernel
theorem dX12_sayers_135 : decode mX12_sayers.cd 135 = .ok (.iaload, 1) := by decide +kernel
theorem dX12_sayers_136 : decode mX12_sayers.cd 136 = .ok (.invokevirtual 331, 3) := by decide +kernel
theorem dX12_sayers_139 : decode mX12_sayers.cd 139 = .ok (.iinc 7 1, 3) := by decide +kernel
theorem dX12_sayers_142 : decode mX12_sayers.cd 142 = .ok (.goto (-43), 3) := by decide +kernel
theorem dX12_sayers_145 : decode mX12_sayers.cd 145 = .ok (.aload_n 0, 1) := by decide +kernel
theorem dX12_sayers_146 : decode mX12_sayers.cd 146 = .ok (.invokevirtual 435, 3) := by decide +kernel
theorem dX12_sayers_149 : decode mX12_sayers.cd 149 = .ok (.ifCond .ne 6, 3) := by decide +kernel
theorem dX12_sayers_152 : decode mX12_sayers.cd 152 = .ok (.goto 36, 3) := by decide +kernel
theorem dX12_sayers_155 : decode mX12_sayers.cd 155 = .ok (.iinc 3 1, 3) := by decide +kernel
theorem dX12_sayers_158 : decode mX12_sayers.cd 158 = .ok (.iload 4, 2) := by decide +kernel
theorem dX12_sayers_160 : decode mX12_sayers.cd 160 = .ok (.iconst (-1), 1) := by decide +kernel
theorem dX12_sayers_161 : decode mX12_sayers.cd 161 = .ok (.if_icmp .eq 16, 3) := by decide +kernel
theorem dX12_sayers_164 : decode mX12_sayers.cd 164 = .ok (.iload 6, 2) := by decide +kernel
theorem dX12_sayers_166 : decode mX12_sayers.cd 166 = .ok (.invokestatic 414, 3) := by decide +kernel
theorem dX12_sayers_169 : decode mX12_sayers.cd 169 = .ok (.iload 4, 2) := by decide +kernel
theorem dX12_sayers_171 : decode mX12_sayers.cd 171 = .ok (.if_icmp .lt 6, 3) := by decide +kernel
theorem dX12_sayers_174 : decode mX12_sayers.cd 174 = .ok (.goto 14, 3) := by decide +kernel
theorem dX12_sayers_177 : decode mX12_sayers.cd 177 = .ok (.iload 6, 2) := by decide +kernel
theorem dX12_sayers_179 : decode mX12_sayers.cd 179 = .ok (.invokestatic 414, 3) := by decide +kernel
theorem dX12_sayers_182 : decode mX12_sayers.cd 182 = .ok (.istore 4, 2) := by decide +kernel
theorem dX12_sayers_184 : decode mX12_sayers.cd 184 = .ok (.iload 6, 2) := by decide +kernel
theorem dX12_sayers_186 : decode mX12_sayers.cd 186 = .ok (.istore 5, 2) := by decide +kernel
theorem dX12_sayers_188 : decode mX12_sayers.cd 188 = .ok (.iinc 6 1, 3) := by decide +kernel
theorem dX12_sayers_191 : decode mX12_sayers.cd 191 = .ok (.goto (-112), 3) := by decide +kernel
theorem dX12_sayers_194 : decode mX12_sayers.cd 194 = .ok (.iload_n 1, 1) := by decide +kernel
theorem dX12_sayers_195 : decode mX12_sayers.cd 195 = .ok (.ifCond .ne 7, 3) := by decide +kernel
theorem dX12_sayers_198 : decode mX12_sayers.cd 198 = .ok (.iload_n 3, 1) := by decide +kernel
theorem dX12_sayers_199 : decode mX12_sayers.cd 199 = .ok (.goto 15, 3) := by decide +kernel
theorem dX12_sayers_202 : decode mX12_sayers.cd 202 = .ok (.iload_n 1, 1) := by decide +kernel
theorem dX12_sayers_203 : decode mX12_sayers.cd 203 = .ok (.iconst 1, 1) := by decide +kernel
theorem dX12_sayers_204 : decode mX12_sayers.cd 204 = .ok (.if_icmp .ne 8, 3) := by decide +kernel
theorem dX12_sayers_207 : decode mX12_sayers.cd 207 = .ok (.iload 4, 2) := by decide +kernel
theorem dX12_sayers_209 : decode mX12_sayers.cd 209 = .ok (.goto 5, 3) := by decide +kernel
theorem dX12_sayers_212 : decode mX12_sayers.cd 212 = .ok (.iload 5, 2) := by decide +kernel
theorem dX12_sayers_214 : decode mX12_sayers.cd 214 = .ok (.ireturn, 1) := by decide +kernel
theorem bX12_sayers_0 {fr M1 M2 b1 b2 : Nat} {Q : RS → Nat → AH → Prop} {h : AH} {l1 : Int} {x2 x3 x4 x5 x6 x7 : AV} {R : Int → AH → Prop}   (hS : Sp mX12_within true (fr - 1) 0 0 [zI l1, zI 0, zI 2] 137 (up h 98 0 0) (rI R)) (hf : 1 ≤ fr := by omega) (kk : ∀ (x : Int) (h' : AH), R x h' → Wp mX12_sayers (kR fr M1 M2) Q (b1, b2) 12 [zR 98, zI l1, none, none, none, none, none, none] [zI x, zR 98] 137 h') : Wp mX12_sayers (kR fr M1 M2) Q (b1, b2) 0 [zR 98, zI l1, x2, x3, x4, x5, x6, x7] [] 137 h := by
  refine s_fgt (fgt_c (fgt_c (fgt_n _ (fgt_n _ (fgt_n _ (fgt_n _ (fgt_n _ (fgt_n _ fgt_0)))))))) ?_
  refine s_aload_n (x := 98) dX12_sayers_0 rfl ?_
  refine s_iconst dX12_sayers_1 ?_
  refine s_put (c := 98) dX12_sayers_2 lX12_136 e98 ?_
  refine s_aload_n (x := 98) dX12_sayers_5 rfl ?_
  refine s_iload_n (x := l1) dX12_sayers_6 rfl ?_
  refine s_iconst dX12_sayers_7 ?_
  refine s_iconst dX12_sayers_8 ?_
  exact s_callS (as := [zI l1, zI 0, zI 2]) (st := [zR 98]) dX12_sayers_9 kX12_301 rfl rfl (Nat.le_of_ble_eq_true rfl) hS (show fr - 1 + 1 ≤ fr by omega) (Nat.zero_le _) (Nat.zero_le _) (fun v n' h' hP _ => by obtain ⟨x, e, rfl, hR⟩ := hP; cases e; exact kk x h' hR) (fun E n' h' _ z => (rI_nt _ _ _ z).elim)
theorem bX12_sayers_12 {fr M1 M2 b1 b2 : Nat} {Q : RS → Nat → AH → Prop} {h : AH} {l1 s0 : Int} {x2 x3 x4 x5 x6 x7 : AV} {R : Int → AH → Prop}   (hS : Sp mX12_right true (fr - 1) 0 0 [zR 98, zI s0, zI 1] 137 h (rI R)) (hf : 1 ≤ fr := by omega) (kk : ∀ (x : Int) (h' : AH), R x h' → Wp mX12_sayers (kR fr M1 M2) Q (b1, b2) 16 [zR 98, zI l1, none, none, none, none, none, none] [zI x] 137 h') : Wp mX12_sayers (kR fr M1 M2) Q (b1, b2) 12 [zR 98, zI l1, x2, x3, x4, x5, x6, x7] [zI s0, zR 98] 137 h := by
  refine s_fgt (fgt_c (fgt_c (fgt_n _ (fgt_n _ (fgt_n _ (fgt_n _ (fgt_n _ (fgt_n _ fgt_0)))))))) ?_
  refine s_iconst dX12_sayers_12 ?_
  exact s_callV (as := [zI s0, zI 1]) (st := []) (o := 98) dX12_sayers_13 kX12_260 rfl ⟨12, 87, TX12, e98, rfl, by decide⟩ rfl rfl (Nat.le_of_ble_eq_true rfl) hS (show fr - 1 + 1 ≤ fr by omega) (Nat.zero_le _) (Nat.zero_le _) (fun v n' h' hP _ => by obtain ⟨x, e, rfl, hR⟩ := hP; cases e; exact kk x h' hR) (fun E n' h' _ z => (rI_nt _ _ _ z).elim)
theorem bX12_sayers_16 {fr M1 M2 b1 b2 : Nat} {Q : RS → Nat → AH → Prop} {h : AH} {l1 s0 : Int} {x2 x3 x4 x5 x6 x7 : AV}  (r1 : -2147483648 ≤ s0 ∧ s0 < 2147483648 := by omega) (kt : ¬ s0 = 0 → Wp mX12_sayers (kR fr M1 M2) Q (b1, b2) 21 [zR 98, zI l1, none, none, none, none, none, none] [] 137 h) (kf : s0 = 0 → Wp mX12_sayers (kR fr M1 M2) Q (b1, b2) 19 [zR 98, zI l1, none, none, none, none, none, none] [] 137 h) : Wp mX12_sayers (kR fr M1 M2) Q (b1, b2) 16 [zR 98, zI l1, x2, x3, x4, x5, x6, x7] [zI s0] 137 h := by
  refine s_fgt (fgt_c (fgt_c (fgt_n _ (fgt_n _ (fgt_n _ (fgt_n _ (fgt_n _ (fgt_n _ fgt_0)))))))) ?_
  exact s_if_ne (tgt := 21) dX12_sayers_16 (by decide) r1 kt kf
theorem bX12_sayers_19 {fr M1 M2 b1 b2 : Nat} {Q : RS → Nat → AH → Prop} {h : AH} {x0 x1 x2 x3 x4 x5 x6 x7 : AV}   (hq : Q (.inl (some (zI 0))) 137 h) : Wp mX12_sayers (kR fr M1 M2) Q (b1, b2) 19 [x0, x1, x2, x3, x4, x5, x6, x7] [] 137 h := by
  refine s_fgt (fgt_n _ (fgt_n _ (fgt_n _ (fgt_n _ (fgt_n _ (fgt_n _ (fgt_n _ (fgt_n _ fgt_0)))))))) ?_
  refine s_iconst dX12_sayers_19 ?_
  exact s_ireturn dX12_sayers_20 ⟨.int, rfl, rfl⟩ hq (fun z => by cases z)
theorem bX12_sayers_21 {fr M1 M2 b1 b2 : Nat} {Q : RS → Nat → AH → Prop} {h : AH} {l1 : Int} {x2 x3 x4 x5 x6 x7 : AV}   (kk : Wp mX12_sayers (kR fr M1 M2) Q (b1, b2) 25 [zR 98, zI l1, zI 0, zI 0, none, none, none, none] [] 137 h) : Wp mX12_sayers (kR fr M1 M2) Q (b1, b2) 21 [zR 98, zI l1, x2, x3, x4, x5, x6, x7] [] 137 h := by
  refine s_fgt (fgt_c (fgt_c (fgt_n _ (fgt_n _ (fgt_n _ (fgt_n _ (fgt_n _ (fgt_n _ fgt_0)))))))) ?_
  refine s_iconst dX12_sayers_21 ?_
  refine s_istore_n dX12_sayers_22 rfl (by decide) ?_
  refine s_iconst dX12_sayers_23 ?_
  refine s_istore_n dX12_sayers_24 rfl (by decide) ?_
  exact kk
theorem bX12_sayers_25 {fr M1 M2 b1 b2 : Nat} {Q : RS → Nat → AH → Prop} {h : AH} {l1 l2 l3 : Int} {x4 x5 x6 x7 : AV}  (r1 : -2147483648 ≤ l3 ∧ l3 < 2147483648 := by omega) (r2 : -2147483648 ≤ h 98 68 ∧ h 98 68 < 2147483648 := by omega) (kt : h 98 68 ≤ l3 → Wp mX12_sayers (kR fr M1 M2) Q (b1, b2) 68 [zR 98, zI l1, zI l2, zI l3, none, none, none, none] [] 137 h) (kf : l3 < h 98 68 → Wp mX12_sayers (kR fr M1 M2) Q (b1, b2) 33 [zR 98, zI l1, zI l2, zI l3, none, none, none, none] [] 137 h) : Wp mX12_sayers (kR fr M1 M2) Q (b1, b2) 25 [zR 98, zI l1, zI l2, zI l3, x4, x5, x6, x7] [] 137 h := by
  refine s_fgt (fgt_c (fgt_c (fgt_c (fgt_c (fgt_n _ (fgt_n _ (fgt_n _ (fgt_n _ fgt_0)))))))) ?_
  refine s_iload_n (x := l3) dX12_sayers_25 rfl ?_
  refine s_aload_n (x := 98) dX12_sayers_26 rfl ?_
  refine s_get (c := 98) dX12_sayers_27 lX12_292 e98 (by decide) ?_
  exact s_icmp_ge (tgt := 68) dX12_sayers_30 (by decide) r1 r2 kt kf
theorem bX12_sayers_33 {fr M1 M2 b1 b2 : Nat} {Q : RS → Nat → AH → Prop} {h : AH} {l1 l2 l3 : Int} {x4 x5 x6 x7 : AV}  (r1 : -2147483648 ≤ l2 ∧ l2 < 2147483648 := by omega) (kt : 14 ≤ l2 → Wp mX12_sayers (kR fr M1 M2) Q (b1, b2) 68 [zR 98, zI l1, zI l2, zI l3, none, none, none, none] [] 137 h) (kf : l2 < 14 → Wp mX12_sayers (kR fr M1 M2) Q (b1, b2) 39 [zR 98, zI l1, zI l2, zI l3, none, none, none, none] [] 137 h) : Wp mX12_sayers (kR fr M1 M2) Q (b1, b2) 33 [zR 98, zI l1, zI l2, zI l3, x4, x5, x6, x7] [] 137 h := by
  refine s_fgt (fgt_c (fgt_c (fgt_c (fgt_c (fgt_n _ (fgt_n _ (fgt_n _ (fgt_n _ fgt_0)))))))) ?_
  refine s_iload_n (x := l2) dX12_sayers_33 rfl ?_
  refine s_bipush dX12_sayers_34 (by decide) ?_
  exact s_icmp_ge (tgt := 68) dX12_sayers_36 (by decide) r1 ⟨by decide, by decide⟩ kt kf
theorem bX12_sayers_39 {fr M1 M2 b1 b2 : Nat} {Q : RS → Nat → AH → Prop} {h : AH} {l1 l2 l3 : Int} {x4 x5 x6 x7 : AV}  (r1 : 0 ≤ l3 ∧ l3 < 60 := by omega) (r2 : -2147483648 ≤ h 124 l3 ∧ h 124 l3 < 2147483648 := by omega) (kt : ¬ h 124 l3 = (-1) → Wp mX12_sayers (kR fr M1 M2) Q (b1, b2) 52 [zR 98, zI l1, zI l2, zI l3, none, none, none, none] [] 137 h) (kf : h 124 l3 = (-1) → Wp mX12_sayers (kR fr M1 M2) Q (b1, b2) 49 [zR 98, zI l1, zI l2, zI l3, none, none, none, none] [] 137 h) : Wp mX12_sayers (kR fr M1 M2) Q (b1, b2) 39 [zR 98, zI l1, zI l2, zI l3, x4, x5, x6, x7] [] 137 h := by
  refine s_fgt (fgt_c (fgt_c (fgt_c (fgt_c (fgt_n _ (fgt_n _ (fgt_n _ (fgt_n _ fgt_0)))))))) ?_
  refine s_aload_n (x := 98) dX12_sayers_39 rfl ?_
  refine s_getFd (c := 98) (d := 124) dX12_sayers_40 lX12_95 e98 (Or.inl rfl) (by decide) (by decide) ?_
  refine s_iload_n (x := l3) dX12_sayers_43 rfl ?_
  refine s_iald (c := 124) (i := l3) dX12_sayers_44 e124 r1.1 r1.2 ?_
  refine s_iconst dX12_sayers_45 ?_
  exact s_icmp_ne (tgt := 52) dX12_sayers_46 (by decide) r2 ⟨by decide, by decide⟩ kt kf
theorem bX12_sayers_49 {fr M1 M2 b1 b2 : Nat} {Q : RS → Nat → AH → Prop} {h : AH} {l1 l2 l3 : Int} {x4 x5 x6 x7 : AV}   (kk : Wp mX12_sayers (kR fr M1 M2) Q (b1, b2) 62 [zR 98, zI l1, zI l2, zI l3, none, none, none, none] [] 137 h) : Wp mX12_sayers (kR fr M1 M2) Q (b1, b2) 49 [zR 98, zI l1, zI l2, zI l3, x4, x5, x6, x7] [] 137 h := by
  refine s_fgt (fgt_c (fgt_c (fgt_c (fgt_c (fgt_n _ (fgt_n _ (fgt_n _ (fgt_n _ fgt_0)))))))) ?_
  exact s_goto (tgt := 62) dX12_sayers_49 (by decide) kk
theorem bX12_sayers_52 {fr M1 M2 b1 b2 : Nat} {Q : RS → Nat → AH → Prop} {h : AH} {l1 l2 l3 : Int} {x4 x5 x6 x7 : AV}  (r1 : 0 ≤ l2 ∧ l2 < 14 := by omega) (kk : Wp mX12_sayers (kR fr M1 M2) Q (b1, b2) 62 [zR 98, zI l1, zI (l2 + 1), zI l3, none, none, none, none] [] 137 (up h 127 l2 l3)) : Wp mX12_sayers (kR fr M1 M2) Q (b1, b2) 52 [zR 98, zI l1, zI l2, zI l3, x4, x5, x6, x7] [] 137 h := by
  refine s_fgt (fgt_c (fgt_c (fgt_c (fgt_c (fgt_n _ (fgt_n _ (fgt_n _ (fgt_n _ fgt_0)))))))) ?_
  refine s_aload_n (x := 98) dX12_sayers_52 rfl ?_
  refine s_getFd (c := 98) (d := 127) dX12_sayers_53 lX12_105 e98 (Or.inl rfl) (by decide) (by decide) ?_
  refine s_iload_n (x := l2) dX12_sayers_56 rfl ?_
  refine s_iload_n (x := l3) dX12_sayers_57 rfl ?_
  refine s_iast (c := 127) (i := l2) dX12_sayers_58 e127 r1.1 r1.2 ?_
  refine s_iinc (x := l2) dX12_sayers_59 rfl rfl (by decide) ?_
  exact kk
theorem bX12_sayers_62 {fr M1 M2 b1 b2 : Nat} {Q : RS → Nat → AH → Prop} {h : AH} {l1 l2 l3 : Int} {x4 x5 x6 x7 : AV}   (kk : Wp mX12_sayers (kR fr M1 M2) Q (b1, b2) 25 [zR 98, zI l1, zI l2, zI (l3 + 1), none, none, none, none] [] 137 h) : Wp mX12_sayers (kR fr M1 M2) Q (b1, b2) 62 [zR 98, zI l1, zI l2, zI l3, x4, x5, x6, x7] [] 137 h := by
  refine s_fgt (fgt_c (fgt_c (fgt_c (fgt_c (fgt_n _ (fgt_n _ (fgt_n _ (fgt_n _ fgt_0)))))))) ?_
  refine s_iinc (x := l3) dX12_sayers_62 rfl rfl (by decide) ?_
  exact s_goto (tgt := 25) dX12_sayers_65 (by decide) kk
theorem bX12_sayers_68 {fr M1 M2 b1 b2 : Nat} {Q : RS → Nat → AH → Prop} {h : AH} {l1 l2 : Int} {x3 x4 x5 x6 x7 : AV}   (kk : Wp mX12_sayers (kR fr M1 M2) Q (b1, b2) 79 [zR 98, zI l1, zI l2, zI 0, zI (-1), zI (-1), zI 0, none] [] 137 h) : Wp mX12_sayers (kR fr M1 M2) Q (b1, b2) 68 [zR 98, zI l1, zI l2, x3, x4, x5, x6, x7] [] 137 h := by
  refine s_fgt (fgt_c (fgt_c (fgt_c (fgt_n _ (fgt_n _ (fgt_n _ (fgt_n _ (fgt_n _ fgt_0)))))))) ?_
  refine s_iconst dX12_sayers_68 ?_
  refine s_istore_n dX12_sayers_69 rfl (by decide) ?_
  refine s_iconst dX12_sayers_70 ?_
  refine s_istore dX12_sayers_71 rfl (by decide) ?_
  refine s_iconst dX12_sayers_73 ?_
  refine s_istore dX12_sayers_74 rfl (by decide) ?_
  refine s_iconst dX12_sayers_76 ?_
  refine s_istore dX12_sayers_77 rfl (by decide) ?_
  exact kk
theorem bX12_sayers_79 {fr M1 M2 b1 b2 : Nat} {Q : RS → Nat → AH → Prop} {h : AH} {l1 l2 l3 l4 l5 l6 : Int} {x7 : AV}  (r1 : 0 ≤ l2 ∧ l2 < 32 := by omega) (r2 : -2147483648 ≤ l6 ∧ l6 < 2147483648 := by omega) (r3 : (-2147483648 : Int) ≤ 1 * 2 ^ l2.toNat ∧ 1 * 2 ^ l2.toNat < (2147483648 : Int) := by omega) (kt : 1 * 2 ^ l2.toNat ≤ l6 → Wp mX12_sayers (kR fr M1 M2) Q (b1, b2) 194 [zR 98, zI l1, zI l2, zI l3, zI l4, zI l5, zI l6, none] [] 137 h) (kf : l6 < 1 * 2 ^ l2.toNat → Wp mX12_sayers (kR fr M1 M2) Q (b1, b2) 87 [zR 98, zI l1, zI l2, zI l3, zI l4, zI l5, zI l6, none] [] 137 h) : Wp mX12_sayers (kR fr M1 M2) Q (b1, b2) 79 [zR 98, zI l1, zI l2, zI l3, zI l4, zI l5, zI l6, x7] [] 137 h := by
  refine s_fgt (fgt_c (fgt_c (fgt_c (fgt_c (fgt_c (fgt_c (fgt_c (fgt_n _ fgt_0)))))))) ?_
  refine s_iload (x := l6) dX12_sayers_79 rfl ?_
  refine s_iconst dX12_sayers_81 ?_
  refine s_iload_n (x := l2) dX12_sayers_82 rfl ?_
  refine s_ishlN dX12_sayers_83 r1.1 r1.2 ?_
  exact s_icmp_ge (tgt := 194) dX12_sayers_84 (by decide) r2 r3 kt kf
theorem bX12_sayers_87 {fr M1 M2 b1 b2 : Nat} {Q : RS → Nat → AH → Prop} {h : AH} {l1 l2 l3 l4 l5 l6 : Int} {x7 : AV} {R : AH → Prop}   (hS : Sp mX12_opens true (fr - 1) 0 0 [zR 98, zI 60, zI 0, zI 12] 137 h (rV R)) (hf : 1 ≤ fr := by omega) (kk : ∀ h' : AH, R h' → Wp mX12_sayers (kR fr M1 M2) Q (b1, b2) 96 [zR 98, zI l1, zI l2, zI l3, zI l4, zI l5, zI l6, none] [] 137 h') : Wp mX12_sayers (kR fr M1 M2) Q (b1, b2) 87 [zR 98, zI l1, zI l2, zI l3, zI l4, zI l5, zI l6, x7] [] 137 h := by
  refine s_fgt (fgt_c (fgt_c (fgt_c (fgt_c (fgt_c (fgt_c (fgt_c (fgt_n _ fgt_0)))))))) ?_
  refine s_aload_n (x := 98) dX12_sayers_87 rfl ?_
  refine s_bipush dX12_sayers_88 (by decide) ?_
  refine s_iconst dX12_sayers_90 ?_
  refine s_bipush dX12_sayers_91 (by decide) ?_
  exact s_callV (as := [zI 60, zI 0, zI 12]) (st := []) (o := 98) dX12_sayers_93 kX12_328 rfl ⟨12, 87, TX12, e98, rfl, by decide⟩ rfl rfl (Nat.le_of_ble_eq_true rfl) hS (show fr - 1 + 1 ≤ fr by omega) (Nat.zero_le _) (Nat.zero_le _) (fun v n' h' hP _ => by obtain ⟨e, rfl, hR⟩ := hP; cases e; exact kk h' hR) (fun E n' h' _ z => (rV_nt _ _ _ z).elim)
theorem bX12_sayers_96 {fr M1 M2 b1 b2 : Nat} {Q : RS → Nat → AH → Prop} {h : AH} {l1 l2 l3 l4 l5 l6 : Int} {x7 : AV}   (kk : Wp mX12_sayers (kR fr M1 M2) Q (b1, b2) 99 [zR 98, zI l1, zI l2, zI l3, zI l4, zI l5, zI l6, zI 0] [] 137 h) : Wp mX12_sayers (kR fr M1 M2) Q (b1, b2) 96 [zR 98, zI l1, zI l2, zI l3, zI l4, zI l5, zI l6, x7] [] 137 h := by
  refine s_fgt (fgt_c (fgt_c (fgt_c (fgt_c (fgt_c (fgt_c (fgt_c (fgt_n _ fgt_0)))))))) ?_
  refine s_iconst dX12_sayers_96 ?_
  refine s_istore dX12_sayers_97 rfl (by decide) ?_
  exact kk
theorem bX12_sayers_99 {fr M1 M2 b1 b2 : Nat} {Q : RS → Nat → AH → Prop} {h : AH} {l1 l2 l3 l4 l5 l6 l7 : Int}  (r1 : -2147483648 ≤ l7 ∧ l7 < 2147483648 := by omega) (r2 : -2147483648 ≤ l2 ∧ l2 < 2147483648 := by omega) (kt : l2 ≤ l7 → Wp mX12_sayers (kR fr M1 M2) Q (b1, b2) 145 [zR 98, zI l1, zI l2, zI l3, zI l4, zI l5, zI l6, zI l7] [] 137 h) (kf : l7 < l2 → Wp mX12_sayers (kR fr M1 M2) Q (b1, b2) 105 [zR 98, zI l1, zI l2, zI l3, zI l4, zI l5, zI l6, zI l7] [] 137 h) : Wp mX12_sayers (kR fr M1 M2) Q (b1, b2) 99 [zR 98, zI l1, zI l2, zI l3, zI l4, zI l5, zI l6, zI l7] [] 137 h := by
  refine s_iload (x := l7) dX12_sayers_99 rfl ?_
  refine s_iload_n (x := l2) dX12_sayers_101 rfl ?_
  exact s_icmp_ge (tgt := 145) dX12_sayers_102 (by decide) r1 r2 kt kf
theorem bX12_sayers_105 {fr M1 M2 b1 b2 : Nat} {Q : RS → Nat → AH → Prop} {h : AH} {l1 l2 l3 l4 l5 l6 l7 : Int}  (r1 : 0 ≤ l7 ∧ l7 < 32 := by omega) (r2 : -2147483648 ≤ l6 ∧ l6 < 2147483648 := by omega) (r3 : -2147483648 ≤ bAnd (l6 / 2 ^ l7.toNat) 1 ∧ bAnd (l6 / 2 ^ l7.toNat) 1 < 2147483648 := by omega) (kt : ¬ bAnd (l6 / 2 ^ l7.toNat) 1 = 1 → Wp mX12_sayers (kR fr M1 M2) Q (b1, b2) 139 [zR 98, zI l1, zI l2, zI l3, zI l4, zI l5, zI l6, zI l7] [] 137 h) (kf : bAnd (l6 / 2 ^ l7.toNat) 1 = 1 → Wp mX12_sayers (kR fr M1 M2) Q (b1, b2) 116 [zR 98, zI l1, zI l2, zI l3, zI l4, zI l5, zI l6, zI l7] [] 137 h) : Wp mX12_sayers (kR fr M1 M2) Q (b1, b2) 105 [zR 98, zI l1, zI l2, zI l3, zI l4, zI l5, zI l6, zI l7] [] 137 h := by
  refine s_iload (x := l6) dX12_sayers_105 rfl ?_
  refine s_iload (x := l7) dX12_sayers_107 rfl ?_
  refine s_ishrN dX12_sayers_109 r2 r1.1 r1.2 ?_
  refine s_iconst dX12_sayers_110 ?_
  refine s_iand dX12_sayers_111 ?_
  refine s_iconst dX12_sayers_112 ?_
  exact s_icmp_ne (tgt := 139) dX12_sayers_113 (by decide) r3 ⟨by decide, by decide⟩ kt kf
theorem bX12_sayers_116 {fr M1 M2 b1 b2 : Nat} {Q : RS → Nat → AH → Prop} {h : AH} {l1 l2 l3 l4 l5 l6 l7 : Int} {R : AH → Prop}  (r1 : 0 ≤ l7 ∧ l7 < 14 := by omega) (r2 : 0 ≤ h 127 l7 ∧ h 127 l7 < 60 := by omega) (hS : Sp mX12_says true (fr - 1) 0 0 [zR 98, zI (h 124 (h 127 l7)), zI (h 127 l7)] 137 h (rV R)) (hf : 1 ≤ fr := by omega) (kk : ∀ h' : AH, R h' → Wp mX12_sayers (kR fr M1 M2) Q (b1, b2) 139 [zR 98, zI l1, zI l2, zI l3, zI l4, zI l5, zI l6, zI l7] [] 137 h') : Wp mX12_sayers (kR fr M1 M2) Q (b1, b2) 116 [zR 98, zI l1, zI l2, zI l3, zI l4, zI l5, zI l6, zI l7] [] 137 h := by
  refine s_aload_n (x := 98) dX12_sayers_116 rfl ?_
  refine s_aload_n (x := 98) dX12_sayers_117 rfl ?_
  refine s_getFd (c := 98) (d := 124) dX12_sayers_118 lX12_95 e98 (Or.inl rfl) (by decide) (by decide) ?_
  refine s_aload_n (x := 98) dX12_sayers_121 rfl ?_
  refine s_getFd (c := 98) (d := 127) dX12_sayers_122 lX12_105 e98 (Or.inl rfl) (by decide) (by decide) ?_
  refine s_iload (x := l7) dX12_sayers_125 rfl ?_
  refine s_iald (c := 127) (i := l7) dX12_sayers_127 e127 r1.1 r1.2 ?_
  refine s_iald (c := 124) (i := h 127 l7) dX12_sayers_128 e124 r2.1 r2.2 ?_
  refine s_aload_n (x := 98) dX12_sayers_129 rfl ?_
  refine s_getFd (c := 98) (d := 127) dX12_sayers_130 lX12_105 e98 (Or.inl rfl) (by decide) (by decide) ?_
  refine s_iload (x := l7) dX12_sayers_133 rfl ?_
  refine s_iald (c := 127) (i := l7) dX12_sayers_135 e127 r1.1 r1.2 ?_
  exact s_callV (as := [zI (h 124 (h 127 l7)), zI (h 127 l7)]) (st := []) (o := 98) dX12_sayers_136 kX12_331 rfl ⟨12, 87, TX12, e98, rfl, by decide⟩ rfl rfl (Nat.le_of_ble_eq_true rfl) hS (show fr - 1 + 1 ≤ fr by omega) (Nat.zero_le _) (Nat.zero_le _) (fun v n' h' hP _ => by obtain ⟨e, rfl, hR⟩ := hP; cases e; exact kk h' hR) (fun E n' h' _ z => (rV_nt _ _ _ z).elim)
theorem bX12_sayers_139 {fr M1 M2 b1 b2 : Nat} {Q : RS → Nat → AH → Prop} {h : AH} {l1 l2 l3 l4 l5 l6 l7 : Int}   (kk : Wp mX12_sayers (kR fr M1 M2) Q (b1, b2) 99 [zR 98, zI l1, zI l2, zI l3, zI l4, zI l5, zI l6, zI (l7 + 1)] [] 137 h) : Wp mX12_sayers (kR fr M1 M2) Q (b1, b2) 139 [zR 98, zI l1, zI l2, zI l3, zI l4, zI l5, zI l6, zI l7] [] 137 h := by
  refine s_iinc (x := l7) dX12_sayers_139 rfl rfl (by decide) ?_
  exact s_goto (tgt := 99) dX12_sayers_142 (by decide) kk
theorem bX12_sayers_145 {fr M1 M2 b1 b2 : Nat} {Q : RS → Nat → AH → Prop} {h : AH} {l1 l2 l3 l4 l5 l6 : Int} {x7 : AV} {R : Int → AH → Prop}   (hS : Sp mX12_isTold true (fr - 1) 0 0 [zR 98] 137 h (rI R)) (hf : 1 ≤ fr := by omega) (kk : ∀ (x : Int) (h' : AH), R x h' → Wp mX12_sayers (kR fr M1 M2) Q (b1, b2) 149 [zR 98, zI l1, zI l2, zI l3, zI l4, zI l5, zI l6, none] [zI x] 137 h') : Wp mX12_sayers (kR fr M1 M2) Q (b1, b2) 145 [zR 98, zI l1, zI l2, zI l3, zI l4, zI l5, zI l6, x7] [] 137 h := by
  refine s_fgt (fgt_c (fgt_c (fgt_c (fgt_c (fgt_c (fgt_c (fgt_c (fgt_n _ fgt_0)))))))) ?_
  refine s_aload_n (x := 98) dX12_sayers_145 rfl ?_
  exact s_callV (as := []) (st := []) (o := 98) dX12_sayers_146 kX12_435 rfl ⟨12, 87, TX12, e98, rfl, by decide⟩ rfl rfl (Nat.le_of_ble_eq_true rfl) hS (show fr - 1 + 1 ≤ fr by omega) (Nat.zero_le _) (Nat.zero_le _) (fun v n' h' hP _ => by obtain ⟨x, e, rfl, hR⟩ := hP; cases e; exact kk x h' hR) (fun E n' h' _ z => (rI_nt _ _ _ z).elim)
theorem bX12_sayers_149 {fr M1 M2 b1 b2 : Nat} {Q : RS → Nat → AH → Prop} {h : AH} {l1 l2 l3 l4 l5 l6 s0 : Int} {x7 : AV}  (r1 : -2147483648 ≤ s0 ∧ s0 < 2147483648 := by omega) (kt : ¬ s0 = 0 → Wp mX12_sayers (kR fr M1 M2) Q (b1, b2) 155 [zR 98, zI l1, zI l2, zI l3, zI l4, zI l5, zI l6, none] [] 137 h) (kf : s0 = 0 → Wp mX12_sayers (kR fr M1 M2) Q (b1, b2) 152 [zR 98, zI l1, zI l2, zI l3, zI l4, zI l5, zI l6, none] [] 137 h) : Wp mX12_sayers (kR fr M1 M2) Q (b1, b2) 149 [zR 98, zI l1, zI l2, zI l3, zI l4, zI l5, zI l6, x7] [zI s0] 137 h := by
  refine s_fgt (fgt_c (fgt_c (fgt_c (fgt_c (fgt_c (fgt_c (fgt_c (fgt_n _ fgt_0)))))))) ?_
  exact s_if_ne (tgt := 155) dX12_sayers_149 (by decide) r1 kt kf
theorem bX12_sayers_152 {fr M1 M2 b1 b2 : Nat} {Q : RS → Nat → AH → Prop} {h : AH} {l1 l2 l3 l4 l5 l6 : Int} {x7 : AV}   (kk : Wp mX12_sayers (kR fr M1 M2) Q (b1, b2) 188 [zR 98, zI l1, zI l2, zI l3, zI l4, zI l5, zI l6, none] [] 137 h) : Wp mX12_sayers (kR fr M1 M2) Q (b1, b2) 152 [zR 98, zI l1, zI l2, zI l3, zI l4, zI l5, zI l6, x7] [] 137 h := by
  refine s_fgt (fgt_c (fgt_c (fgt_c (fgt_c (fgt_c (fgt_c (fgt_c (fgt_n _ fgt_0)))))))) ?_
  exact s_goto (tgt := 188) dX12_sayers_152 (by decide) kk
theorem bX12_sayers_155 {fr M1 M2 b1 b2 : Nat} {Q : RS → Nat → AH → Prop} {h : AH} {l1 l2 l3 l4 l5 l6 : Int} {x7 : AV}  (r1 : -2147483648 ≤ l4 ∧ l4 < 2147483648 := by omega) (kt : l4 = (-1) → Wp mX12_sayers (kR fr M1 M2) Q (b1, b2) 177 [zR 98, zI l1, zI l2, zI (l3 + 1), zI l4, zI l5, zI l6, none] [] 137 h) (kf : ¬ l4 = (-1) → Wp mX12_sayers (kR fr M1 M2) Q (b1, b2) 164 [zR 98, zI l1, zI l2, zI (l3 + 1), zI l4, zI l5, zI l6, none] [] 137 h) : Wp mX12_sayers (kR fr M1 M2) Q (b1, b2) 155 [zR 98, zI l1, zI l2, zI l3, zI l4, zI l5, zI l6, x7] [] 137 h := by
  refine s_fgt (fgt_c (fgt_c (fgt_c (fgt_c (fgt_c (fgt_c (fgt_c (fgt_n _ fgt_0)))))))) ?_
  refine s_iinc (x := l3) dX12_sayers_155 rfl rfl (by decide) ?_
  refine s_iload (x := l4) dX12_sayers_158 rfl ?_
  refine s_iconst dX12_sayers_160 ?_
  exact s_icmp_eq (tgt := 177) dX12_sayers_161 (by decide) r1 ⟨by decide, by decide⟩ kt kf
theorem bX12_sayers_164 {fr M1 M2 b1 b2 : Nat} {Q : RS → Nat → AH → Prop} {h : AH} {l1 l2 l3 l4 l5 l6 : Int} {x7 : AV} {R : Int → AH → Prop}   (hS : Sp mX12_bits true (fr - 1) 0 0 [zI l6] 137 h (rI R)) (hf : 1 ≤ fr := by omega) (kk : ∀ (x : Int) (h' : AH), R x h' → Wp mX12_sayers (kR fr M1 M2) Q (b1, b2) 169 [zR 98, zI l1, zI l2, zI l3, zI l4, zI l5, zI l6, none] [zI x] 137 h') : Wp mX12_sayers (kR fr M1 M2) Q (b1, b2) 164 [zR 98, zI l1, zI l2, zI l3, zI l4, zI l5, zI l6, x7] [] 137 h := by
  refine s_fgt (fgt_c (fgt_c (fgt_c (fgt_c (fgt_c (fgt_c (fgt_c (fgt_n _ fgt_0)))))))) ?_
  refine s_iload (x := l6) dX12_sayers_164 rfl ?_
  exact s_callS (as := [zI l6]) (st := []) dX12_sayers_166 kX12_414 rfl rfl (Nat.le_of_ble_eq_true rfl) hS (show fr - 1 + 1 ≤ fr by omega) (Nat.zero_le _) (Nat.zero_le _) (fun v n' h' hP _ => by obtain ⟨x, e, rfl, hR⟩ := hP; cases e; exact kk x h' hR) (fun E n' h' _ z => (rI_nt _ _ _ z).elim)
theorem bX12_sayers_169 {fr M1 M2 b1 b2 : Nat} {Q : RS → Nat → AH → Prop} {h : AH} {l1 l2 l3 l4 l5 l6 s0 : Int} {x7 : AV}  (r1 : -2147483648 ≤ s0 ∧ s0 < 2147483648 := by omega) (r2 : -2147483648 ≤ l4 ∧ l4 < 2147483648 := by omega) (kt : s0 < l4 → Wp mX12_sayers (kR fr M1 M2) Q (b1, b2) 177 [zR 98, zI l1, zI l2, zI l3, zI l4, zI l5, zI l6, none] [] 137 h) (kf : l4 ≤ s0 → Wp mX12_sayers (kR fr M1 M2) Q (b1, b2) 174 [zR 98, zI l1, zI l2, zI l3, zI l4, zI l5, zI l6, none] [] 137 h) : Wp mX12_sayers (kR fr M1 M2) Q (b1, b2) 169 [zR 98, zI l1, zI l2, zI l3, zI l4, zI l5, zI l6, x7] [zI s0] 137 h := by
  refine s_fgt (fgt_c (fgt_c (fgt_c (fgt_c (fgt_c (fgt_c (fgt_c (fgt_n _ fgt_0)))))))) ?_
  refine s_iload (x := l4) dX12_sayers_169 rfl ?_
  exact s_icmp_lt (tgt := 177) dX12_sayers_171 (by decide) r1 r2 kt kf
theorem bX12_sayers_174 {fr M1 M2 b1 b2 : Nat} {Q : RS → Nat → AH → Prop} {h : AH} {l1 l2 l3 l4 l5 l6 : Int} {x7 : AV}   (kk : Wp mX12_sayers (kR fr M1 M2) Q (b1, b2) 188 [zR 98, zI l1, zI l2, zI l3, zI l4, zI l5, zI l6, none] [] 137 h) : Wp mX12_sayers (kR fr M1 M2) Q (b1, b2) 174 [zR 98, zI l1, zI l2, zI l3, zI l4, zI l5, zI l6, x7] [] 137 h := by
  refine s_fgt (fgt_c (fgt_c (fgt_c (fgt_c (fgt_c (fgt_c (fgt_c (fgt_n _ fgt_0)))))))) ?_
  exact s_goto (tgt := 188) dX12_sayers_174 (by decide) kk
theorem bX12_sayers_177 {fr M1 M2 b1 b2 : Nat} {Q : RS → Nat → AH → Prop} {h : AH} {l1 l2 l3 l6 : Int} {x4 x5 x7 : AV} {R : Int → AH → Prop}   (hS : Sp mX12_bits true (fr - 1) 0 0 [zI l6] 137 h (rI R)) (hf : 1 ≤ fr := by omega) (kk : ∀ (x : Int) (h' : AH), R x h' → Wp mX12_sayers (kR fr M1 M2) Q (b1, b2) 182 [zR 98, zI l1, zI l2, zI l3, none, none, zI l6, none] [zI x] 137 h') : Wp mX12_sayers (kR fr M1 M2) Q (b1, b2) 177 [zR 98, zI l1, zI l2, zI l3, x4, x5, zI l6, x7] [] 137 h := by
  refine s_fgt (fgt_c (fgt_c (fgt_c (fgt_c (fgt_n _ (fgt_n _ (fgt_c (fgt_n _ fgt_0)))))))) ?_
  refine s_iload (x := l6) dX12_sayers_177 rfl ?_
  exact s_callS (as := [zI l6]) (st := []) dX12_sayers_179 kX12_414 rfl rfl (Nat.le_of_ble_eq_true rfl) hS (show fr - 1 + 1 ≤ fr by omega) (Nat.zero_le _) (Nat.zero_le _) (fun v n' h' hP _ => by obtain ⟨x, e, rfl, hR⟩ := hP; cases e; exact kk x h' hR) (fun E n' h' _ z => (rI_nt _ _ _ z).elim)
theorem bX12_sayers_182 {fr M1 M2 b1 b2 : Nat} {Q : RS → Nat → AH → Prop} {h : AH} {l1 l2 l3 l6 s0 : Int} {x4 x5 x7 : AV}   (kk : Wp mX12_sayers (kR fr M1 M2) Q (b1, b2) 188 [zR 98, zI l1, zI l2, zI l3, zI s0, zI l6, zI l6, none] [] 137 h) : Wp mX12_sayers (kR fr M1 M2) Q (b1, b2) 182 [zR 98, zI l1, zI l2, zI l3, x4, x5, zI l6, x7] [zI s0] 137 h := by
  refine s_fgt (fgt_c (fgt_c (fgt_c (fgt_c (fgt_n _ (fgt_n _ (fgt_c (fgt_n _ fgt_0)))))))) ?_
  refine s_istore dX12_sayers_182 rfl (by decide) ?_
  refine s_iload (x := l6) dX12_sayers_184 rfl ?_
  refine s_istore dX12_sayers_186 rfl (by decide) ?_
  exact kk
theorem bX12_sayers_188 {fr M1 M2 b1 b2 : Nat} {Q : RS → Nat → AH → Prop} {h : AH} {l1 l2 l3 l4 l5 l6 : Int} {x7 : AV}   (kk : Wp mX12_sayers (kR fr M1 M2) Q (b1, b2) 79 [zR 98, zI l1, zI l2, zI l3, zI l4, zI l5, zI (l6 + 1), none] [] 137 h) : Wp mX12_sayers (kR fr M1 M2) Q (b1, b2) 188 [zR 98, zI l1, zI l2, zI l3, zI l4, zI l5, zI l6, x7] [] 137 h := by
  refine s_fgt (fgt_c (fgt_c (fgt_c (fgt_c (fgt_c (fgt_c (fgt_c (fgt_n _ fgt_0)))))))) ?_
  refine s_iinc (x := l6) dX12_sayers_188 rfl rfl (by decide) ?_
  exact s_goto (tgt := 79) dX12_sayers_191 (by decide) kk
theorem bX12_sayers_194 {fr M1 M2 b1 b2 : Nat} {Q : RS → Nat → AH → Prop} {h : AH} {l1 l3 l4 l5 : Int} {x0 x2 x6 x7 : AV}  (r1 : -2147483648 ≤ l1 ∧ l1 < 2147483648 := by omega) (kt : ¬ l1 = 0 → Wp mX12_sayers (kR fr M1 M2) Q (b1, b2) 202 [none, zI l1, none, zI l3, zI l4, zI l5, none, none] [] 137 h) (kf : l1 = 0 → Wp mX12_sayers (kR fr M1 M2) Q (b1, b2) 198 [none, zI l1, none, zI l3, zI l4, zI l5, none, none] [] 137 h) : Wp mX12_sayers (kR fr M1 M2) Q (b1, b2) 194 [x0, zI l1, x2, zI l3, zI l4, zI l5, x6, x7] [] 137 h := by
  refine s_fgt (fgt_n _ (fgt_c (fgt_n _ (fgt_c (fgt_c (fgt_c (fgt_n _ (fgt_n _ fgt_0)))))))) ?_
  refine s_iload_n (x := l1) dX12_sayers_194 rfl ?_
  exact s_if_ne (tgt := 202) dX12_sayers_195 (by decide) r1 kt kf
theorem bX12_sayers_198 {fr M1 M2 b1 b2 : Nat} {Q : RS → Nat → AH → Prop} {h : AH} {l3 : Int} {x0 x1 x2 x4 x5 x6 x7 : AV}   (kk : Wp mX12_sayers (kR fr M1 M2) Q (b1, b2) 214 [none, none, none, zI l3, none, none, none, none] [zI l3] 137 h) : Wp mX12_sayers (kR fr M1 M2) Q (b1, b2) 198 [x0, x1, x2, zI l3, x4, x5, x6, x7] [] 137 h := by
  refine s_fgt (fgt_n _ (fgt_n _ (fgt_n _ (fgt_c (fgt_n _ (fgt_n _ (fgt_n _ (fgt_n _ fgt_0)))))))) ?_
  refine s_iload_n (x := l3) dX12_sayers_198 rfl ?_
  exact s_goto (tgt := 214) dX12_sayers_199 (by decide) kk
theorem bX12_sayers_202 {fr M1 M2 b1 b2 : Nat} {Q : RS → Nat → AH → Prop} {h : AH} {l1 l4 l5 : Int} {x0 x2 x3 x6 x7 : AV}  (r1 : -2147483648 ≤ l1 ∧ l1 < 2147483648 := by omega) (kt : ¬ l1 = 1 → Wp mX12_sayers (kR fr M1 M2) Q (b1, b2) 212 [none, zI l1, none, none, zI l4, zI l5, none, none] [] 137 h) (kf : l1 = 1 → Wp mX12_sayers (kR fr M1 M2) Q (b1, b2) 207 [none, zI l1, none, none, zI l4, zI l5, none, none] [] 137 h) : Wp mX12_sayers (kR fr M1 M2) Q (b1, b2) 202 [x0, zI l1, x2, x3, zI l4, zI l5, x6, x7] [] 137 h := by
  refine s_fgt (fgt_n _ (fgt_c (fgt_n _ (fgt_n _ (fgt_c (fgt_c (fgt_n _ (fgt_n _ fgt_0)))))))) ?_
  refine s_iload_n (x := l1) dX12_sayers_202 rfl ?_
  refine s_iconst dX12_sayers_203 ?_
  exact s_icmp_ne (tgt := 212) dX12_sayers_204 (by decide) r1 ⟨by decide, by decide⟩ kt kf
theorem bX12_sayers_207 {fr M1 M2 b1 b2 : Nat} {Q : RS → Nat → AH → Prop} {h : AH} {l4 : Int} {x0 x1 x2 x3 x5 x6 x7 : AV}   (kk : Wp mX12_sayers (kR fr M1 M2) Q (b1, b2) 214 [none, none, none, none, zI l4, none, none, none] [zI l4] 137 h) : Wp mX12_sayers (kR fr M1 M2) Q (b1, b2) 207 [x0, x1, x2, x3, zI l4, x5, x6, x7] [] 137 h := by
  refine s_fgt (fgt_n _ (fgt_n _ (fgt_n _ (fgt_n _ (fgt_c (fgt_n _ (fgt_n _ (fgt_n _ fgt_0)))))))) ?_
  refine s_iload (x := l4) dX12_sayers_207 rfl ?_
  exact s_goto (tgt := 214) dX12_sayers_209 (by decide) kk
theorem bX12_sayers_212 {fr M1 M2 b1 b2 : Nat} {Q : RS → Nat → AH → Prop} {h : AH} {l5 : Int} {x0 x1 x2 x3 x4 x6 x7 : AV}   (kk : Wp mX12_sayers (kR fr M1 M2) Q (b1, b2) 214 [none, none, none, none, none, zI l5, none, none] [zI l5] 137 h) : Wp mX12_sayers (kR fr M1 M2) Q (b1, b2) 212 [x0, x1, x2, x3, x4, zI l5, x6, x7] [] 137 h := by
  refine s_fgt (fgt_n _ (fgt_n _ (fgt_n _ (fgt_n _ (fgt_n _ (fgt_c (fgt_n _ (fgt_n _ fgt_0)))))))) ?_
  refine s_iload (x := l5) dX12_sayers_212 rfl ?_
  exact kk
theorem bX12_sayers_214 {fr M1 M2 b1 b2 : Nat} {Q : RS → Nat → AH → Prop} {h : AH} {s0 : Int} {x0 x1 x2 x3 x4 x5 x6 x7 : AV}   (hq : Q (.inl (some (zI s0))) 137 h) : Wp mX12_sayers (kR fr M1 M2) Q (b1, b2) 214 [x0, x1, x2, x3, x4, x5, x6, x7] [zI s0] 137 h := by
  refine s_fgt (fgt_n _ (fgt_n _ (fgt_n _ (fgt_n _ (fgt_n _ (fgt_n _ (fgt_n _ (fgt_n _ fgt_0)))))))) ?_
  exact s_ireturn dX12_sayers_214 ⟨.int, rfl, rfl⟩ hq (fun z => by cases z)
theorem dX12_stand_0 : decode mX12_stand.cd 0 = .ok (.aload_n 0, 1) := by decide +kernel
theorem dX12_stand_1 : decode mX12_stand.cd 1 = .ok (.iconst 0, 1) := by decide +kernel
theorem dX12_stand_2 : decode mX12_stand.cd 2 = .ok (.putfield 136, 3) := by decide +kernel
theorem dX12_stand_5 : decode mX12_stand.cd 5 = .ok (.aload_n 0, 1) := by decide +kernel
theorem dX12_stand_6 : decode mX12_stand.cd 6 = .ok (.iload_n 1, 1) := by decide +kernel
theorem dX12_stand_7 : decode mX12_stand.cd 7 = .ok (.iconst 0, 1) := by decide +kernel
theorem dX12_stand_8 : decode mX12_stand.cd 8 = .ok (.iconst 2, 1) := by decide +kernel
theorem dX12_stand_9 : decode mX12_stand.cd 9 = .ok (.invokestatic 301, 3) := by decide +kernel
theorem dX12_stand_12 : decode mX12_stand.cd 12 = .ok (.iconst 1, 1) := by decide +kernel
theorem dX12_stand_13 : decode mX12_stand.cd 13 = .ok (.invokevirtual 260, 3) := by decide +kernel
theorem dX12_stand_16 : decode mX12_stand.cd 16 = .ok (.ifCond .eq 23, 3) := by decide +kernel
theorem dX12_stand_19 : decode mX12_stand.cd 19 = .ok (.iload_n 2, 1) := by decide +kernel
theorem dX12_stand_20 : decode mX12_stand.cd 20 = .ok (.iconst 0, 1) := by decide +kernel
theorem dX12_stand_21 : decode mX12_stand.cd 21 = .ok (.bipush 30, 2) := by decide +kernel
theorem dX12_stand_23 : decode mX12_stand.cd 23 = .ok (.invokestatic 301, 3) := by decide +kernel
theorem dX12_stand_26 : decode mX12_stand.cd 26 = .ok (.ifCond .eq 13, 3) := by decide +kernel
theorem dX12_stand_29 : decode mX12_stand.cd 29 = .ok (.iload_n 3, 1) := by decide +kernel
theorem dX12_stand_30 : decode mX12_stand.cd 30 = .ok (.iconst 0, 1) := by decide +kernel
theorem dX12_stand_31 : decode mX12_stand.cd 31 = .ok (.bipush 30, 2) := by decide +kernel
theorem dX12_stand_33 : decode mX12_stand.cd 33 = .ok (.invokestatic 301, 3) := by decide +kernel
theorem dX12_stand_36 : decode mX12_stand.cd 36 = .ok (.ifCond .ne 5, 3) := by decide +kernel
theorem dX12_stand_39 : decode mX12_stand.cd 39 = .ok (.iconst 0, 1) := by decide +kernel
theorem dX12_stand_40 : decode mX12_stand.cd 40 = .ok (.ireturn, 1) := by decide +kernel
theorem dX12_stand_41 : decode mX12_stand.cd 41 = .ok (.aload_n 0, 1) := by decide +kernel
theorem dX12_stand_42 : decode mX12_stand.cd 42 = .ok (.getfield 108, 3) := by decide +kernel
theorem dX12_stand_45 : decode mX12_stand.cd 45 = .ok (.iconst 2, 1) := by decide +kernel
theorem dX12_stand_46 : decode mX12_stand.cd 46 = .ok (.iload_n 1, 1) := by decide +kernel
theorem dX12_stand_47 : decode mX12_stand.cd 47 = .ok (.imul, 1) := by decide +kernel
theorem dX12_stand_48 : decode mX12_stand.cd 48 = .ok (.iload_n 2, 1) := by decide +kernel
theorem dX12_stand_49 : decode mX12_stand.cd 49 = .ok (.iastore, 1) := by decide +kernel
theorem dX12_stand_50 : decode mX12_stand.cd 50 = .ok (.aload_n 0, 1) := by decide +kernel
theorem dX12_stand_51 : decode mX12_stand.cd 51 = .ok (.getfield 108, 3) := by decide +kernel
theorem dX12_stand_54 : decode mX12_stand.cd 54 = .ok (.iconst 2, 1) := by decide +kernel
theorem dX12_stand_55 : decode mX12_stand.cd 55 = .ok (.iload_n 1, 1) := by decide +kernel
theorem dX12_stand_56 : decode mX12_stand.cd 56 = .ok (.imul, 1) := by decide +kernel
theorem dX12_stand_57 : decode mX12_stand.cd 57 = .ok (.iconst 1, 1) := by decide +kernel
theorem dX12_stand_58 : decode mX12_stand.cd 58 = .ok (.iadd, 1) := by decide +kernel
theorem dX12_stand_59 : decode mX12_stand.cd 59 = .ok (.iload_n 3, 1) := by decide +kernel
theorem dX12_stand_60 : decode mX12_stand.cd 60 = .ok (.iastore, 1) := by decide +kernel
theorem dX12_stand_61 : decode mX12_stand.cd 61 = .ok (.iconst 1, 1) := by decide +kernel
theorem dX12_stand_62 : decode mX12_stand.cd 62 = .ok (.ireturn, 1) := by decide +kernel
theorem bX12_stand_0 {fr M1 M2 b1 b2 : Nat} {Q : RS → Nat → AH → Prop} {h : AH} {l1 l2 l3 : Int} {R : Int → AH → Prop}   (hS : Sp mX12_within true (fr - 1) 0 0 [zI l1, zI 0, zI 2] 137 (up h 98 0 0) (rI R)) (hf : 1 ≤ fr := by omega) (kk : ∀ (x : Int) (h' : AH), R x h' → Wp mX12_stand (kR fr M1 M2) Q (b1, b2) 12 [zR 98, zI l1, zI l2, zI l3] [zI x, zR 98] 137 h') : Wp mX12_stand (kR fr M1 M2) Q (b1, b2) 0 [zR 98, zI l1, zI l2, zI l3] [] 137 h := by
  refine s_aload_n (x := 98) dX12_stand_0 rfl ?_
  refine s_iconst dX12_stand_1 ?_
  refine s_put (c := 98) dX12_stand_2 lX12_136 e98 ?_
  refine s_aload_n (x := 98) dX12_stand_5 rfl ?_
  refine s_iload_n (x := l1) dX12_stand_6 rfl ?_
  refine s_iconst dX12_stand_7 ?_
  refine s_iconst dX12_stand_8 ?_
  exact s_callS (as := [zI l1, zI 0, zI 2]) (st := [zR 98]) dX12_stand_9 kX12_301 rfl rfl (Nat.le_of_ble_eq_true rfl) hS (show fr - 1 + 1 ≤ fr by omega) (Nat.zero_le _) (Nat.zero_le _) (fun v n' h' hP _ => by obtain ⟨x, e, rfl, hR⟩ := hP; cases e; exact kk x h' hR) (fun E n' h' _ z => (rI_nt _ _ _ z).elim)
theorem bX12_stand_12 {fr M1 M2 b1 b2 : Nat} {Q : RS → Nat → AH → Prop} {h : AH} {l1 l2 l3 s0 : Int} {R : Int → AH → Prop}   (hS : Sp mX12_right true (fr - 1) 0 0 [zR 98, zI s0, zI 1] 137 h (rI R)) (hf : 1 ≤ fr := by omega) (kk : ∀ (x : Int) (h' : AH), R x h' → Wp mX12_stand (kR fr M1 M2) Q (b1, b2) 16 [zR 98, zI l1, zI l2, zI l3] [zI x] 137 h') : Wp mX12_stand (kR fr M1 M2) Q (b1, b2) 12 [zR 98, zI l1, zI l2, zI l3] [zI s0, zR 98] 137 h := by
  refine s_iconst dX12_stand_12 ?_
  exact s_callV (as := [zI s0, zI 1]) (st := []) (o := 98) dX12_stand_13 kX12_260 rfl ⟨12, 87, TX12, e98, rfl, by decide⟩ rfl rfl (Nat.le_of_ble_eq_true rfl) hS (show fr - 1 + 1 ≤ fr by omega) (Nat.zero_le _) (Nat.zero_le _) (fun v n' h' hP _ => by obtain ⟨x, e, rfl, hR⟩ := hP; cases e; exact kk x h' hR) (fun E n' h' _ z => (rI_nt _ _ _ z).elim)
theorem bX12_stand_16 {fr M1 M2 b1 b2 : Nat} {Q : RS → Nat → AH → Prop} {h : AH} {l1 l2 l3 s0 : Int}  (r1 : -2147483648 ≤ s0 ∧ s0 < 2147483648 := by omega) (kt : s0 = 0 → Wp mX12_stand (kR fr M1 M2) Q (b1, b2) 39 [zR 98, zI l1, zI l2, zI l3] [] 137 h) (kf : ¬ s0 = 0 → Wp mX12_stand (kR fr M1 M2) Q (b1, b2) 19 [zR 98, zI l1, zI l2, zI l3] [] 137 h) : Wp mX12_stand (kR fr M1 M2) Q (b1, b2) 16 [zR 98, zI l1, zI l2, zI l3] [zI s0] 137 h := by
  exact s_if_eq (tgt := 39) dX12_stand_16 (by decide) r1 kt kf
theorem bX12_stand_19 {fr M1 M2 b1 b2 : Nat} {Q : RS → Nat → AH → Prop} {h : AH} {l1 l2 l3 : Int} {R : Int → AH → Prop}   (hS : Sp mX12_within true (fr - 1) 0 0 [zI l2, zI 0, zI 30] 137 h (rI R)) (hf : 1 ≤ fr := by omega) (kk : ∀ (x : Int) (h' : AH), R x h' → Wp mX12_stand (kR fr M1 M2) Q (b1, b2) 26 [zR 98, zI l1, zI l2, zI l3] [zI x] 137 h') : Wp mX12_stand (kR fr M1 M2) Q (b1, b2) 19 [zR 98, zI l1, zI l2, zI l3] [] 137 h := by
  refine s_iload_n (x := l2) dX12_stand_19 rfl ?_
  refine s_iconst dX12_stand_20 ?_
  refine s_bipush dX12_stand_21 (by decide) ?_
  exact s_callS (as := [zI l2, zI 0, zI 30]) (st := []) dX12_stand_23 kX12_301 rfl rfl (Nat.le_of_ble_eq_true rfl) hS (show fr - 1 + 1 ≤ fr by omega) (Nat.zero_le _) (Nat.zero_le _) (fun v n' h' hP _ => by obtain ⟨x, e, rfl, hR⟩ := hP; cases e; exact kk x h' hR) (fun E n' h' _ z => (rI_nt _ _ _ z).elim)
theorem bX12_stand_26 {fr M1 M2 b1 b2 : Nat} {Q : RS → Nat → AH → Prop} {h : AH} {l1 l2 l3 s0 : Int}  (r1 : -2147483648 ≤ s0 ∧ s0 < 2147483648 := by omega) (kt : s0 = 0 → Wp mX12_stand (kR fr M1 M2) Q (b1, b2) 39 [zR 98, zI l1, zI l2, zI l3] [] 137 h) (kf : ¬ s0 = 0 → Wp mX12_stand (kR fr M1 M2) Q (b1, b2) 29 [zR 98, zI l1, zI l2, zI l3] [] 137 h) : Wp mX12_stand (kR fr M1 M2) Q (b1, b2) 26 [zR 98, zI l1, zI l2, zI l3] [zI s0] 137 h := by
  exact s_if_eq (tgt := 39) dX12_stand_26 (by decide) r1 kt kf
theorem bX12_stand_29 {fr M1 M2 b1 b2 : Nat} {Q : RS → Nat → AH → Prop} {h : AH} {l1 l2 l3 : Int} {R : Int → AH → Prop}   (hS : Sp mX12_within true (fr - 1) 0 0 [zI l3, zI 0, zI 30] 137 h (rI R)) (hf : 1 ≤ fr := by omega) (kk : ∀ (x : Int) (h' : AH), R x h' → Wp mX12_stand (kR fr M1 M2) Q (b1, b2) 36 [zR 98, zI l1, zI l2, zI l3] [zI x] 137 h') : Wp mX12_stand (kR fr M1 M2) Q (b1, b2) 29 [zR 98, zI l1, zI l2, zI l3] [] 137 h := by
  refine s_iload_n (x := l3) dX12_stand_29 rfl ?_
  refine s_iconst dX12_stand_30 ?_
  refine s_bipush dX12_stand_31 (by decide) ?_
  exact s_callS (as := [zI l3, zI 0, zI 30]) (st := []) dX12_stand_33 kX12_301 rfl rfl (Nat.le_of_ble_eq_true rfl) hS (show fr - 1 + 1 ≤ fr by omega) (Nat.zero_le _) (Nat.zero_le _) (fun v n' h' hP _ => by obtain ⟨x, e, rfl, hR⟩ := hP; cases e; exact kk x h' hR) (fun E n' h' _ z => (rI_nt _ _ _ z).elim)
theorem bX12_stand_36 {fr M1 M2 b1 b2 : Nat} {Q : RS → Nat → AH → Prop} {h : AH} {l1 l2 l3 s0 : Int}  (r1 : -2147483648 ≤ s0 ∧ s0 < 2147483648 := by omega) (kt : ¬ s0 = 0 → Wp mX12_stand (kR fr M1 M2) Q (b1, b2) 41 [zR 98, zI l1, zI l2, zI l3] [] 137 h) (kf : s0 = 0 → Wp mX12_stand (kR fr M1 M2) Q (b1, b2) 39 [zR 98, zI l1, zI l2, zI l3] [] 137 h) : Wp mX12_stand (kR fr M1 M2) Q (b1, b2) 36 [zR 98, zI l1, zI l2, zI l3] [zI s0] 137 h := by
  exact s_if_ne (tgt := 41) dX12_stand_36 (by decide) r1 kt kf
theorem bX12_stand_39 {fr M1 M2 b1 b2 : Nat} {Q : RS → Nat → AH → Prop} {h : AH} {x0 x1 x2 x3 : AV}   (hq : Q (.inl (some (zI 0))) 137 h) : Wp mX12_stand (kR fr M1 M2) Q (b1, b2) 39 [x0, x1, x2, x3] [] 137 h := by
  refine s_fgt (fgt_n _ (fgt_n _ (fgt_n _ (fgt_n _ fgt_0)))) ?_
  refine s_iconst dX12_stand_39 ?_
  exact s_ireturn dX12_stand_40 ⟨.boolean, rfl, by decide⟩ hq (fun z => by cases z)
theorem bX12_stand_41 {fr M1 M2 b1 b2 : Nat} {Q : RS → Nat → AH → Prop} {h : AH} {l1 l2 l3 : Int}  (r1 : 0 ≤ 2 * l1 ∧ 2 * l1 < 6 := by omega) (r2 : 0 ≤ (2 * l1) + 1 ∧ (2 * l1) + 1 < 6 := by omega) (hq : Q (.inl (some (zI 1))) 137 (up (up h 128 (2 * l1) l2) 128 ((2 * l1) + 1) l3)) : Wp mX12_stand (kR fr M1 M2) Q (b1, b2) 41 [zR 98, zI l1, zI l2, zI l3] [] 137 h := by
  refine s_aload_n (x := 98) dX12_stand_41 rfl ?_
  refine s_getFd (c := 98) (d := 128) dX12_stand_42 lX12_108 e98 (Or.inl rfl) (by decide) (by decide) ?_
  refine s_iconst dX12_stand_45 ?_
  refine s_iload_n (x := l1) dX12_stand_46 rfl ?_
  refine s_imul dX12_stand_47 ?_
  refine s_iload_n (x := l2) dX12_stand_48 rfl ?_
  refine s_iast (c := 128) (i := 2 * l1) dX12_stand_49 e128 r1.1 r1.2 ?_
  refine s_aload_n (x := 98) dX12_stand_50 rfl ?_
  refine s_getFd (c := 98) (d := 128) dX12_stand_51 lX12_108 e98 (Or.inl rfl) (by decide) (by decide) ?_
  refine s_iconst dX12_stand_54 ?_
  refine s_iload_n (x := l1) dX12_stand_55 rfl ?_
  refine s_imul dX12_stand_56 ?_
  refine s_iconst dX12_stand_57 ?_
  refine s_iadd dX12_stand_58 ?_
  refine s_iload_n (x := l3) dX12_stand_59 rfl ?_
  refine s_iast (c := 128) (i := (2 * l1) + 1) dX12_stand_60 e128 r2.1 r2.2 ?_
  refine s_iconst dX12_stand_61 ?_
  exact s_ireturn dX12_stand_62 ⟨.boolean, rfl, by decide⟩ hq (fun z => by cases z)
theorem dX12_ticksTo_0 : decode mX12_ticksTo.cd 0 = .ok (.iload_n 1, 1) := by decide +kernel
theorem dX12_ticksTo_1 : decode mX12_ticksTo.cd 1 = .ok (.bipush 31, 2) := by decide +kernel
theorem dX12_ticksTo_3 : decode mX12_ticksTo.cd 3 = .ok (.irem, 1) := by decide +kernel
theorem dX12_ticksTo_4 : decode mX12_ticksTo.cd 4 = .ok (.aload_n 0, 1) := by decide +kernel
theorem dX12_ticksTo_5 : decode mX12_ticksTo.cd 5 = .ok (.getfield 108, 3) := by decide +kernel
theorem dX12_ticksTo_8 : decode mX12_ticksTo.cd 8 = .ok (.iconst 2, 1) := by decide +kernel
theorem dX12_ticksTo_9 : decode mX12_ticksTo.cd 9 = .ok (.iload_n 2, 1) := by decide +kernel
theorem dX12_ticksTo_10 : decode mX12_ticksTo.cd 10 = .ok (.imul, 1) := by decide +kernel
theorem dX12_ticksTo_11 : decode mX12_ticksTo.cd 11 = .ok (.iaload, 1) := by decide +kernel
theorem dX12_ticksTo_12 : decode mX12_ticksTo.cd 12 = .ok (.isub, 1) := by decide +kernel
theorem dX12_ticksTo_13 : decode mX12_ticksTo.cd 13 = .ok (.istore_n 3, 1) := by decide +kernel
theorem dX12_ticksTo_14 : decode mX12_ticksTo.cd 14 = .ok (.iload_n 1, 1) := by decide +kernel
theorem dX12_ticksTo_15 : decode mX12_ticksTo.cd 15 = .ok (.bipush 31, 2) := by decide +kernel
theorem dX12_ticksTo_17 : decode mX12_ticksTo.cd 17 = .ok (.idiv, 1) := by decide +kernel
theorem dX12_ticksTo_18 : decode mX12_ticksTo.cd 18 = .ok (.aload_n 0, 1) := by decide +kernel
theorem dX12_ticksTo_19 : decode mX12_ticksTo.cd 19 = .ok (.getfield 108, 3) := by decide +kernel
theorem dX12_ticksTo_22 : decode mX12_ticksTo.cd 22 = .ok (.iconst 2, 1) := by decide +kernel
theorem dX12_ticksTo_23 : decode mX12_ticksTo.cd 23 = .ok (.iload_n 2, 1) := by decide +kernel
theorem dX12_ticksTo_24 : decode mX12_ticksTo.cd 24 = .ok (.imul, 1) := by decide +kernel
theorem dX12_ticksTo_25 : decode mX12_ticksTo.cd 25 = .ok (.iconst 1, 1) := by decide +kernel
theorem dX12_ticksTo_26 : decode mX12_ticksTo.cd 26 = .ok (.iadd, 1) := by decide +kernel
theorem dX12_ticksTo_27 : decode mX12_ticksTo.cd 27 = .ok (.iaload, 1) := by decide +kernel
theorem dX12_ticksTo_28 : decode mX12_ticksTo.cd 28 = .ok (.isub, 1) := by decide +kernel
theorem dX12_ticksTo_29 : decode mX12_ticksTo.cd 29 = .ok (.istore 4, 2) := by decide +kernel
theorem dX12_ticksTo_31 : decode mX12_ticksTo.cd 31 = .ok (.sipush 10000, 3) := by decide +kernel
theorem dX12_ticksTo_34 : decode mX12_ticksTo.cd 34 = .ok (.iload_n 3, 1) := by decide +kernel
theorem dX12_ticksTo_35 : decode mX12_ticksTo.cd 35 = .ok (.iload_n 3, 1) := by decide +kernel
theorem dX12_ticksTo_36 : decode mX12_ticksTo.cd 36 = .ok (.imul, 1) := by decide +kernel
theorem dX12_ticksTo_37 : decode mX12_ticksTo.cd 37 = .ok (.iload 4, 2) := by decide +kernel
theorem dX12_ticksTo_39 : decode mX12_ticksTo.cd 39 = .ok (.iload 4, 2) := by decide +kernel
theorem dX12_ticksTo_41 : decode mX12_ticksTo.cd 41 = .ok (.imul, 1) := by decide +kernel
theorem dX12_ticksTo_42 : decode mX12_ticksTo.cd 42 = .ok (.iadd, 1) := by decide +kernel
theorem dX12_ticksTo_43 : decode mX12_ticksTo.cd 43 = .ok (.imul, 1) := by decide +kernel
theorem dX12_ticksTo_44 : decode mX12_ticksTo.cd 44 = .ok (.istore 5, 2) := by decide +kernel
theorem dX12_ticksTo_46 : decode mX12_ticksTo.cd 46 = .ok (.iconst 0, 1) := by decide +kernel
theorem dX12_ticksTo_47 : decode mX12_ticksTo.cd 47 = .ok (.istore 6, 2) := by decide +kernel
theorem dX12_ticksTo_49 : decode mX12_ticksTo.cd 49 = .ok (.sipush 5000, 3) := by decide +kernel
theorem dX12_ticksTo_52 : decode mX12_ticksTo.cd 52 = .ok (.istore 7, 2) := by decide +kernel
theorem dX12_ticksTo_54 : decode mX12_ticksTo.cd 54 = .ok (.iload 6, 2) := by decide +kernel
theorem dX12_ticksTo_56 : decode mX12_ticksTo.cd 56 = .ok (.iload 7, 2) := by decide +kernel
theorem dX12_ticksTo_58 : decode mX12_ticksTo.cd 58 = .ok (.if_icmp .ge 40, 3) := by decide +kernel
theorem dX12_ticksTo_61 : decode mX12_ticksTo.cd 61 = .ok (.iload 6, 2) := by decide +kernel
theorem dX12_ticksTo_63 : decode mX12_ticksTo.cd 63 = .ok (.iload 7, 2) := by decide +kernel
theorem dX12_ticksTo_65 : decode mX12_ticksTo.cd 65 = .ok (.iadd, 1) := by decide +kernel
theorem dX12_ticksTo_66 : decode mX12_ticksTo.cd 66 = .ok (.iconst 1, 1) := by decide +kernel
theorem dX12_ticksTo_67 : decode mX12_ticksTo.cd 67 = .ok (.iadd, 1) := by decide +kernel
theorem dX12_ticksTo_68 : decode mX12_ticksTo.cd 68 = .ok (.iconst 2, 1) := by decide +kernel
theorem dX12_ticksTo_69 : decode mX12_ticksTo.cd 69 = .ok (.idiv, 1) := by decide +kernel
theorem dX12_ticksTo_70 : decode mX12_ticksTo.cd 70 = .ok (.istore 8, 2) := by decide +kernel
theorem dX12_ticksTo_72 : decode mX12_ticksTo.cd 72 = .ok (.iload 8, 2) := by decide +kernel
theorem dX12_ticksTo_74 : decode mX12_ticksTo.cd 74 = .ok (.iload 8, 2) := by decide +kernel
theorem dX12_ticksTo_76 : decode mX12_ticksTo.cd 76 = .ok (.imul, 1) := by decide +kernel
theorem dX12_ticksTo_77 : decode mX12_ticksTo.cd 77 = .ok (.iload 5, 2) := by decide +kernel
theorem dX12_ticksTo_79 : decode mX12_ticksTo.cd 79 = .ok (.if_icmp .gt 10, 3) := by decide +kernel
theorem dX12_ticksTo_82 : decode mX12_ticksTo.cd 82 = .ok (.iload 8, 2) := by decide +kernel
theorem dX12_ticksTo_84 : decode mX12_ticksTo.cd 84 = .ok (.istore 6, 2) := by decide +kernel
theorem dX12_ticksTo_86 : decode mX12_ticksTo.cd 86 = .ok (.goto 9, 3) := by decide +kernel
theorem dX12_ticksTo_89 : decode mX12_ticksTo.cd 89 = .ok (.iload 8, 2) := by decide +kernel
theorem dX12_ticksTo_91 : decode mX12_ticksTo.cd 91 = .ok (.iconst 1, 1) := by decide +kernel
theorem dX12_ticksTo_92 : decode mX12_ticksTo.cd 92 = .ok (.isub, 1) := by decide +kernel
theorem dX12_ticksTo_93 : decode mX12_ticksTo.cd 93 = .ok (.istore 7, 2) := by decide +kernel
theorem dX12_ticksTo_95 : decode mX12_ticksTo.cd 95 = .ok (.goto (-41), 3) := by decide +kernel
theorem dX12_ticksTo_98 : decode mX12_ticksTo.cd 98 = .ok (.iload 6, 2) := by decide +kernel
theorem dX12_ticksTo_100 : decode mX12_ticksTo.cd 100 = .ok (.bipush 100, 2) := by decide +kernel
theorem dX12_ticksTo_102 : decode mX12_ticksTo.cd 102 = .ok (.idiv, 1) := by decide +kernel
theorem dX12_ticksTo_103 : decode mX12_ticksTo.cd 103 = .ok (.ireturn, 1) := by decide +kernel
theorem bX12_ticksTo_0 {fr M1 M2 b1 b2 : Nat} {Q : RS → Nat → AH → Prop} {h : AH} {l1 l2 : Int} {x3 x4 x5 x6 x7 x8 : AV}  (r1 : 0 ≤ l1 ∧ l1 < 2147483648 := by omega) (r2 : 0 ≤ 2 * l2 ∧ 2 * l2 < 6 := by omega) (r3 : 0 ≤ (2 * l2) + 1 ∧ (2 * l2) + 1 < 6 := by omega) (kk : Wp mX12_ticksTo (kR fr M1 M2) Q (b1, b2) 54 [zR 98, zI l1, zI l2, zI ((l1 % 31) - (h 128 (2 * l2))), zI ((l1 / 31) - (h 128 ((2 * l2) + 1))), zI (10000 * ((((l1 % 31) - (h 128 (2 * l2))) * ((l1 % 31) - (h 128 (2 * l2)))) + (((l1 / 31) - (h 128 ((2 * l2) + 1))) * ((l1 / 31) - (h 128 ((2 * l2) + 1)))))), zI 0, zI 5000, none] [] 137 h) : Wp mX12_ticksTo (kR fr M1 M2) Q (b1, b2) 0 [zR 98, zI l1, zI l2, x3, x4, x5, x6, x7, x8] [] 137 h := by
  refine s_fgt (fgt_c (fgt_c (fgt_c (fgt_n _ (fgt_n _ (fgt_n _ (fgt_n _ (fgt_n _ (fgt_n _ fgt_0))))))))) ?_
  refine s_iload_n (x := l1) dX12_ticksTo_0 rfl ?_
  refine s_bipush dX12_ticksTo_1 (by decide) ?_
  refine s_iremN dX12_ticksTo_3 r1.1 r1.2 (by decide) (by decide) ?_
  refine s_aload_n (x := 98) dX12_ticksTo_4 rfl ?_
  refine s_getFd (c := 98) (d := 128) dX12_ticksTo_5 lX12_108 e98 (Or.inl rfl) (by decide) (by decide) ?_
  refine s_iconst dX12_ticksTo_8 ?_
  refine s_iload_n (x := l2) dX12_ticksTo_9 rfl ?_
  refine s_imul dX12_ticksTo_10 ?_
  refine s_iald (c := 128) (i := 2 * l2) dX12_ticksTo_11 e128 r2.1 r2.2 ?_
  refine s_isub dX12_ticksTo_12 ?_
  refine s_istore_n dX12_ticksTo_13 rfl (by decide) ?_
  refine s_iload_n (x := l1) dX12_ticksTo_14 rfl ?_
  refine s_bipush dX12_ticksTo_15 (by decide) ?_
  refine s_idivN dX12_ticksTo_17 r1.1 r1.2 (by decide) (by decide) ?_
  refine s_aload_n (x := 98) dX12_ticksTo_18 rfl ?_
  refine s_getFd (c := 98) (d := 128) dX12_ticksTo_19 lX12_108 e98 (Or.inl rfl) (by decide) (by decide) ?_
  refine s_iconst dX12_ticksTo_22 ?_
  refine s_iload_n (x := l2) dX12_ticksTo_23 rfl ?_
  refine s_imul dX12_ticksTo_24 ?_
  refine s_iconst dX12_ticksTo_25 ?_
  refine s_iadd dX12_ticksTo_26 ?_
  refine s_iald (c := 128) (i := (2 * l2) + 1) dX12_ticksTo_27 e128 r3.1 r3.2 ?_
  refine s_isub dX12_ticksTo_28 ?_
  refine s_istore dX12_ticksTo_29 rfl (by decide) ?_
  refine s_sipush dX12_ticksTo_31 (by decide) ?_
  refine s_iload_n (x := (l1 % 31) - (h 128 (2 * l2))) dX12_ticksTo_34 rfl ?_
  refine s_iload_n (x := (l1 % 31) - (h 128 (2 * l2))) dX12_ticksTo_35 rfl ?_
  refine s_imul dX12_ticksTo_36 ?_
  refine s_iload (x := (l1 / 31) - (h 128 ((2 * l2) + 1))) dX12_ticksTo_37 rfl ?_
  refine s_iload (x := (l1 / 31) - (h 128 ((2 * l2) + 1))) dX12_ticksTo_39 rfl ?_
  refine s_imul dX12_ticksTo_41 ?_
  refine s_iadd dX12_ticksTo_42 ?_
  refine s_imul dX12_ticksTo_43 ?_
  refine s_istore dX12_ticksTo_44 rfl (by decide) ?_
  refine s_iconst dX12_ticksTo_46 ?_
  refine s_istore dX12_ticksTo_47 rfl (by decide) ?_
  refine s_sipush dX12_ticksTo_49 (by decide) ?_
  refine s_istore dX12_ticksTo_52 rfl (by decide) ?_
  exact kk
theorem bX12_ticksTo_54 {fr M1 M2 b1 b2 : Nat} {Q : RS → Nat → AH → Prop} {h : AH} {l5 l6 l7 : Int} {x0 x1 x2 x3 x4 x8 : AV}  (r1 : -2147483648 ≤ l6 ∧ l6 < 2147483648 := by omega) (r2 : -2147483648 ≤ l7 ∧ l7 < 2147483648 := by omega) (kt : l7 ≤ l6 → Wp mX12_ticksTo (kR fr M1 M2) Q (b1, b2) 98 [none, none, none, none, none, zI l5, zI l6, zI l7, none] [] 137 h) (kf : l6 < l7 → Wp mX12_ticksTo (kR fr M1 M2) Q (b1, b2) 61 [none, none, none, none, none, zI l5, zI l6, zI l7, none] [] 137 h) : Wp mX12_ticksTo (kR fr M1 M2) Q (b1, b2) 54 [x0, x1, x2, x3, x4, zI l5, zI l6, zI l7, x8] [] 137 h := by
  refine s_fgt (fgt_n _ (fgt_n _ (fgt_n _ (fgt_n _ (fgt_n _ (fgt_c (fgt_c (fgt_c (fgt_n _ fgt_0))))))))) ?_
  refine s_iload (x := l6) dX12_ticksTo_54 rfl ?_
  refine s_iload (x := l7) dX12_ticksTo_56 rfl ?_
  exact s_icmp_ge (tgt := 98) dX12_ticksTo_58 (by decide) r1 r2 kt kf
theorem bX12_ticksTo_61 {fr M1 M2 b1 b2 : Nat} {Q : RS → Nat → AH → Prop} {h : AH} {l5 l6 l7 : Int} {x0 x1 x2 x3 x4 x8 : AV}  (r1 : 0 ≤ (l6 + l7) + 1 ∧ (l6 + l7) + 1 < 2147483648 := by omega) (r2 : -2147483648 ≤ (((l6 + l7) + 1) / 2) * (((l6 + l7) + 1) / 2) ∧ (((l6 + l7) + 1) / 2) * (((l6 + l7) + 1) / 2) < 2147483648 := by omega) (r3 : -2147483648 ≤ l5 ∧ l5 < 2147483648 := by omega) (kt : l5 < (((l6 + l7) + 1) / 2) * (((l6 + l7) + 1) / 2) → Wp mX12_ticksTo (kR fr M1 M2) Q (b1, b2) 89 [none, none, none, none, none, zI l5, zI l6, zI l7, zI (((l6 + l7) + 1) / 2)] [] 137 h) (kf : (((l6 + l7) + 1) / 2) * (((l6 + l7) + 1) / 2) ≤ l5 → Wp mX12_ticksTo (kR fr M1 M2) Q (b1, b2) 82 [none, none, none, none, none, zI l5, zI l6, zI l7, zI (((l6 + l7) + 1) / 2)] [] 137 h) : Wp mX12_ticksTo (kR fr M1 M2) Q (b1, b2) 61 [x0, x1, x2, x3, x4, zI l5, zI l6, zI l7, x8] [] 137 h := by
  refine s_fgt (fgt_n _ (fgt_n _ (fgt_n _ (fgt_n _ (fgt_n _ (fgt_c (fgt_c (fgt_c (fgt_n _ fgt_0))))))))) ?_
  refine s_iload (x := l6) dX12_ticksTo_61 rfl ?_
  refine s_iload (x := l7) dX12_ticksTo_63 rfl ?_
  refine s_iadd dX12_ticksTo_65 ?_
  refine s_iconst dX12_ticksTo_66 ?_
  refine s_iadd dX12_ticksTo_67 ?_
  refine s_iconst dX12_ticksTo_68 ?_
  refine s_idivN dX12_ticksTo_69 r1.1 r1.2 (by decide) (by decide) ?_
  refine s_istore dX12_ticksTo_70 rfl (by decide) ?_
  refine s_iload (x := ((l6 + l7) + 1) / 2) dX12_ticksTo_72 rfl ?_
  refine s_iload (x := ((l6 + l7) + 1) / 2) dX12_ticksTo_74 rfl ?_
  refine s_imul dX12_ticksTo_76 ?_
  refine s_iload (x := l5) dX12_ticksTo_77 rfl ?_
  exact s_icmp_gt (tgt := 89) dX12_ticksTo_79 (by decide) r2 r3 kt kf
theorem bX12_ticksTo_82 {fr M1 M2 b1 b2 : Nat} {Q : RS → Nat → AH → Prop} {h : AH} {l5 l7 l8 : Int} {x0 x1 x2 x3 x4 x6 : AV}   (kk : Wp mX12_ticksTo (kR fr M1 M2) Q (b1, b2) 95 [none, none, none, none, none, zI l5, zI l8, zI l7, zI l8] [] 137 h) : Wp mX12_ticksTo (kR fr M1 M2) Q (b1, b2) 82 [x0, x1, x2, x3, x4, zI l5, x6, zI l7, zI l8] [] 137 h := by
  refine s_fgt (fgt_n _ (fgt_n _ (fgt_n _ (fgt_n _ (fgt_n _ (fgt_c (fgt_n _ (fgt_c (fgt_c fgt_0))))))))) ?_
  refine s_iload (x := l8) dX12_ticksTo_82 rfl ?_
  refine s_istore dX12_ticksTo_84 rfl (by decide) ?_
  exact s_goto (tgt := 95) dX12_ticksTo_86 (by decide) kk
theorem bX12_ticksTo_89 {fr M1 M2 b1 b2 : Nat} {Q : RS → Nat → AH → Prop} {h : AH} {l5 l6 l8 : Int} {x0 x1 x2 x3 x4 x7 : AV}   (kk : Wp mX12_ticksTo (kR fr M1 M2) Q (b1, b2) 95 [none, none, none, none, none, zI l5, zI l6, zI (l8 - 1), zI l8] [] 137 h) : Wp mX12_ticksTo (kR fr M1 M2) Q (b1, b2) 89 [x0, x1, x2, x3, x4, zI l5, zI l6, x7, zI l8] [] 137 h := by
  refine s_fgt (fgt_n _ (fgt_n _ (fgt_n _ (fgt_n _ (fgt_n _ (fgt_c (fgt_c (fgt_n _ (fgt_c fgt_0))))))))) ?_
  refine s_iload (x := l8) dX12_ticksTo_89 rfl ?_
  refine s_iconst dX12_ticksTo_91 ?_
  refine s_isub dX12_ticksTo_92 ?_
  refine s_istore dX12_ticksTo_93 rfl (by decide) ?_
  exact kk
theorem bX12_ticksTo_95 {fr M1 M2 b1 b2 : Nat} {Q : RS → Nat → AH → Prop} {h : AH} {l5 l6 l7 : Int} {x0 x1 x2 x3 x4 x8 : AV}   (kk : Wp mX12_ticksTo (kR fr M1 M2) Q (b1, b2) 54 [none, none, none, none, none, zI l5, zI l6, zI l7, none] [] 137 h) : Wp mX12_ticksTo (kR fr M1 M2) Q (b1, b2) 95 [x0, x1, x2, x3, x4, zI l5, zI l6, zI l7, x8] [] 137 h := by
  refine s_fgt (fgt_n _ (fgt_n _ (fgt_n _ (fgt_n _ (fgt_n _ (fgt_c (fgt_c (fgt_c (fgt_n _ fgt_0))))))))) ?_
  exact s_goto (tgt := 54) dX12_ticksTo_95 (by decide) kk
theorem bX12_ticksTo_98 {fr M1 M2 b1 b2 : Nat} {Q : RS → Nat → AH → Prop} {h : AH} {l6 : Int} {x0 x1 x2 x3 x4 x5 x7 x8 : AV}  (r1 : 0 ≤ l6 ∧ l6 < 2147483648 := by omega) (hq : Q (.inl (some (zI (l6 / 100)))) 137 h) : Wp mX12_ticksTo (kR fr M1 M2) Q (b1, b2) 98 [x0, x1, x2, x3, x4, x5, zI l6, x7, x8] [] 137 h := by
  refine s_fgt (fgt_n _ (fgt_n _ (fgt_n _ (fgt_n _ (fgt_n _ (fgt_n _ (fgt_c (fgt_n _ (fgt_n _ fgt_0))))))))) ?_
  refine s_iload (x := l6) dX12_ticksTo_98 rfl ?_
  refine s_bipush dX12_ticksTo_100 (by decide) ?_
  refine s_idivN dX12_ticksTo_102 r1.1 r1.2 (by decide) (by decide) ?_
  exact s_ireturn dX12_ticksTo_103 ⟨.int, rfl, rfl⟩ hq (fun z => by cases z)
theorem dX12_matches_0 : decode mX12_matches.cd 0 = .ok (.aload_n 0, 1) := by decide +kernel
theorem dX12_matches_1 : decode mX12_matches.cd 1 = .ok (.iload_n 1, 1) := by decide +kernel
theorem dX12_matches_2 : decode mX12_matches.cd 2 = .ok (.iconst 0, 1) := by decide +kernel
theorem dX12_matches_3 : decode mX12_matches.cd 3 = .ok (.invokevirtual 448, 3) := by decide +kernel
theorem dX12_matches_6 : decode mX12_matches.cd 6 = .ok (.istore 4, 2) := by decide +kernel
theorem dX12_matches_8 : decode mX12_matches.cd 8 = .ok (.aload_n 0, 1) := by decide +kernel
theorem dX12_matches_9 : decode mX12_matches.cd 9 = .ok (.iload_n 1, 1) := by decide +kernel
theorem dX12_matches_10 : decode mX12_matches.cd 10 = .ok (.iconst 1, 1) := by decide +kernel
theorem dX12_matches_11 : decode mX12_matches.cd 11 = .ok (.invokevirtual 448, 3) := by decide +kernel
theorem dX12_matches_14 : decode mX12_matches.cd 14 = .ok (.iload 4, 2) := by decide +kernel
theorem dX12_matches_16 : decode mX12_matches.cd 16 = .ok (.isub, 1) := by decide +kernel
theorem dX12_matches_17 : decode mX12_matches.cd 17 = .ok (.iload_n 2, 1) := by decide +kernel
theorem dX12_matches_18 : decode mX12_matches.cd 18 = .ok (.if_icmp .ne 20, 3) := by decide +kernel
theorem dX12_matches_21 : decode mX12_matches.cd 21 = .ok (.aload_n 0, 1) := by decide +kernel
theorem dX12_matches_22 : decode mX12_matches.cd 22 = .ok (.iload_n 1, 1) := by decide +kernel
theorem dX12_matches_23 : decode mX12_matches.cd 23 = .ok (.iconst 2, 1) := by decide +kernel
theorem dX12_matches_24 : decode mX12_matches.cd 24 = .ok (.invokevirtual 448, 3) := by decide +kernel
theorem dX12_matches_27 : decode mX12_matches.cd 27 = .ok (.iload 4, 2) := by decide +kernel
theorem dX12_matches_29 : decode mX12_matches.cd 29 = .ok (.isub, 1) := by decide +kernel
theorem dX12_matches_30 : decode mX12_matches.cd 30 = .ok (.iload_n 3, 1) := by decide +kernel
theorem dX12_matches_31 : decode mX12_matches.cd 31 = .ok (.if_icmp .ne 7, 3) := by decide +kernel
theorem dX12_matches_34 : decode mX12_matches.cd 34 = .ok (.iconst 1, 1) := by decide +kernel
theorem dX12_matches_35 : decode mX12_matches.cd 35 = .ok (.goto 4, 3) := by decide +kernel
theorem dX12_matches_38 : decode mX12_matches.cd 38 = .ok (.iconst 0, 1) := by decide +kernel
theorem dX12_matches_39 : decode mX12_matches.cd 39 = .ok (.ireturn, 1) := by decide +kernel
theorem bX12_matches_0 {fr M1 M2 b1 b2 : Nat} {Q : RS → Nat → AH → Prop} {h : AH} {l1 l2 l3 : Int} {x4 : AV} {R : Int → AH → Prop}   (hS : Sp mX12_ticksTo true (fr - 1) 0 0 [zR 98, zI l1, zI 0] 137 h (rI R)) (hf : 1 ≤ fr := by omega) (kk : ∀ (x : Int) (h' : AH), R x h' → Wp mX12_matches (kR fr M1 M2) Q (b1, b2) 6 [zR 98, zI l1, zI l2, zI l3, none] [zI x] 137 h') : Wp mX12_matches (kR fr M1 M2) Q (b1, b2) 0 [zR 98, zI l1, zI l2, zI l3, x4] [] 137 h := by
  refine s_fgt (fgt_c (fgt_c (fgt_c (fgt_c (fgt_n _ fgt_0))))) ?_
  refine s_aload_n (x := 98) dX12_matches_0 rfl ?_
  refine s_iload_n (x := l1) dX12_matches_1 rfl ?_
  refine s_iconst dX12_matches_2 ?_
  exact s_callV (as := [zI l1, zI 0]) (st := []) (o := 98) dX12_matches_3 kX12_448 rfl ⟨12, 87, TX12, e98, rfl, by decide⟩ rfl rfl (Nat.le_of_ble_eq_true rfl) hS (show fr - 1 + 1 ≤ fr by omega) (Nat.zero_le _) (Nat.zero_le _) (fun v n' h' hP _ => by obtain ⟨x, e, rfl, hR⟩ := hP; cases e; exact kk x h' hR) (fun E n' h' _ z => (rI_nt _ _ _ z).elim)
theorem bX12_matches_6 {fr M1 M2 b1 b2 : Nat} {Q : RS → Nat → AH → Prop} {h : AH} {l1 l2 l3 s0 : Int} {x4 : AV} {R : Int → AH → Prop}   (hS : Sp mX12_ticksTo true (fr - 1) 0 0 [zR 98, zI l1, zI 1] 137 h (rI R)) (hf : 1 ≤ fr := by omega) (kk : ∀ (x : Int) (h' : AH), R x h' → Wp mX12_matches (kR fr M1 M2) Q (b1, b2) 14 [zR 98, zI l1, zI l2, zI l3, zI s0] [zI x] 137 h') : Wp mX12_matches (kR fr M1 M2) Q (b1, b2) 6 [zR 98, zI l1, zI l2, zI l3, x4] [zI s0] 137 h := by
  refine s_fgt (fgt_c (fgt_c (fgt_c (fgt_c (fgt_n _ fgt_0))))) ?_
  refine s_istore dX12_matches_6 rfl (by decide) ?_
  refine s_aload_n (x := 98) dX12_matches_8 rfl ?_
  refine s_iload_n (x := l1) dX12_matches_9 rfl ?_
  refine s_iconst dX12_matches_10 ?_
  exact s_callV (as := [zI l1, zI 1]) (st := []) (o := 98) dX12_matches_11 kX12_448 rfl ⟨12, 87, TX12, e98, rfl, by decide⟩ rfl rfl (Nat.le_of_ble_eq_true rfl) hS (show fr - 1 + 1 ≤ fr by omega) (Nat.zero_le _) (Nat.zero_le _) (fun v n' h' hP _ => by obtain ⟨x, e, rfl, hR⟩ := hP; cases e; exact kk x h' hR) (fun E n' h' _ z => (rI_nt _ _ _ z).elim)
theorem bX12_matches_14 {fr M1 M2 b1 b2 : Nat} {Q : RS → Nat → AH → Prop} {h : AH} {l1 l2 l3 l4 s0 : Int}  (r1 : -2147483648 ≤ s0 - l4 ∧ s0 - l4 < 2147483648 := by omega) (r2 : -2147483648 ≤ l2 ∧ l2 < 2147483648 := by omega) (kt : ¬ s0 - l4 = l2 → Wp mX12_matches (kR fr M1 M2) Q (b1, b2) 38 [zR 98, zI l1, zI l2, zI l3, zI l4] [] 137 h) (kf : s0 - l4 = l2 → Wp mX12_matches (kR fr M1 M2) Q (b1, b2) 21 [zR 98, zI l1, zI l2, zI l3, zI l4] [] 137 h) : Wp mX12_matches (kR fr M1 M2) Q (b1, b2) 14 [zR 98, zI l1, zI l2, zI l3, zI l4] [zI s0] 137 h := by
  refine s_iload (x := l4) dX12_matches_14 rfl ?_
  refine s_isub dX12_matches_16 ?_
  refine s_iload_n (x := l2) dX12_matches_17 rfl ?_
  exact s_icmp_ne (tgt := 38) dX12_matches_18 (by decide) r1 r2 kt kf
theorem bX12_matches_21 {fr M1 M2 b1 b2 : Nat} {Q : RS → Nat → AH → Prop} {h : AH} {l1 l3 l4 : Int} {x2 : AV} {R : Int → AH → Prop}   (hS : Sp mX12_ticksTo true (fr - 1) 0 0 [zR 98, zI l1, zI 2] 137 h (rI R)) (hf : 1 ≤ fr := by omega) (kk : ∀ (x : Int) (h' : AH), R x h' → Wp mX12_matches (kR fr M1 M2) Q (b1, b2) 27 [zR 98, zI l1, none, zI l3, zI l4] [zI x] 137 h') : Wp mX12_matches (kR fr M1 M2) Q (b1, b2) 21 [zR 98, zI l1, x2, zI l3, zI l4] [] 137 h := by
  refine s_fgt (fgt_c (fgt_c (fgt_n _ (fgt_c (fgt_c fgt_0))))) ?_
  refine s_aload_n (x := 98) dX12_matches_21 rfl ?_
  refine s_iload_n (x := l1) dX12_matches_22 rfl ?_
  refine s_iconst dX12_matches_23 ?_
  exact s_callV (as := [zI l1, zI 2]) (st := []) (o := 98) dX12_matches_24 kX12_448 rfl ⟨12, 87, TX12, e98, rfl, by decide⟩ rfl rfl (Nat.le_of_ble_eq_true rfl) hS (show fr - 1 + 1 ≤ fr by omega) (Nat.zero_le _) (Nat.zero_le _) (fun v n' h' hP _ => by obtain ⟨x, e, rfl, hR⟩ := hP; cases e; exact kk x h' hR) (fun E n' h' _ z => (rI_nt _ _ _ z).elim)
theorem bX12_matches_27 {fr M1 M2 b1 b2 : Nat} {Q : RS → Nat → AH → Prop} {h : AH} {l3 l4 s0 : Int} {x0 x1 x2 : AV}  (r1 : -2147483648 ≤ s0 - l4 ∧ s0 - l4 < 2147483648 := by omega) (r2 : -2147483648 ≤ l3 ∧ l3 < 2147483648 := by omega) (kt : ¬ s0 - l4 = l3 → Wp mX12_matches (kR fr M1 M2) Q (b1, b2) 38 [none, none, none, zI l3, zI l4] [] 137 h) (kf : s0 - l4 = l3 → Wp mX12_matches (kR fr M1 M2) Q (b1, b2) 34 [none, none, none, zI l3, zI l4] [] 137 h) : Wp mX12_matches (kR fr M1 M2) Q (b1, b2) 27 [x0, x1, x2, zI l3, zI l4] [zI s0] 137 h := by
  refine s_fgt (fgt_n _ (fgt_n _ (fgt_n _ (fgt_c (fgt_c fgt_0))))) ?_
  refine s_iload (x := l4) dX12_matches_27 rfl ?_
  refine s_isub dX12_matches_29 ?_
  refine s_iload_n (x := l3) dX12_matches_30 rfl ?_
  exact s_icmp_ne (tgt := 38) dX12_matches_31 (by decide) r1 r2 kt kf
theorem bX12_matches_34 {fr M1 M2 b1 b2 : Nat} {Q : RS → Nat → AH → Prop} {h : AH} {x0 x1 x2 x3 x4 : AV}   (kk : Wp mX12_matches (kR fr M1 M2) Q (b1, b2) 39 [none, none, none, none, none] [zI 1] 137 h) : Wp mX12_matches (kR fr M1 M2) Q (b1, b2) 34 [x0, x1, x2, x3, x4] [] 137 h := by
  refine s_fgt (fgt_n _ (fgt_n _ (fgt_n _ (fgt_n _ (fgt_n _ fgt_0))))) ?_
  refine s_iconst dX12_matches_34 ?_
  exact s_goto (tgt := 39) dX12_matches_35 (by decide) kk
theorem bX12_matches_38 {fr M1 M2 b1 b2 : Nat} {Q : RS → Nat → AH → Prop} {h : AH} {x0 x1 x2 x3 x4 : AV}   (kk : Wp mX12_matches (kR fr M1 M2) Q (b1, b2) 39 [none, none, none, none, none] [zI 0] 137 h) : Wp mX12_matches (kR fr M1 M2) Q (b1, b2) 38 [x0, x1, x2, x3, x4] [] 137 h := by
  refine s_fgt (fgt_n _ (fgt_n _ (fgt_n _ (fgt_n _ (fgt_n _ fgt_0))))) ?_
  refine s_iconst dX12_matches_38 ?_
  exact kk
theorem bX12_matches_39 {fr M1 M2 b1 b2 : Nat} {Q : RS → Nat → AH → Prop} {h : AH} {s0 : Int} {x0 x1 x2 x3 x4 : AV}  (r1 : s0 = 0 ∨ s0 = 1 := by omega) (hq : Q (.inl (some (zI s0))) 137 h) : Wp mX12_matches (kR fr M1 M2) Q (b1, b2) 39 [x0, x1, x2, x3, x4] [zI s0] 137 h := by
  refine s_fgt (fgt_n _ (fgt_n _ (fgt_n _ (fgt_n _ (fgt_n _ fgt_0))))) ?_
  exact s_ireturn dX12_matches_39 ⟨.boolean, rfl, bool_nar r1⟩ hq (fun z => by cases z)
theorem dX12_matching_0 : decode mX12_matching.cd 0 = .ok (.aload_n 0, 1) := by decide +kernel
theorem dX12_matching_1 : decode mX12_matching.cd 1 = .ok (.iconst 0, 1) := by decide +kernel
theorem dX12_matching_2 : decode mX12_matching.cd 2 = .ok (.putfield 136, 3) := by decide +kernel
theorem dX12_matching_5 : decode mX12_matching.cd 5 = .ok (.aload_n 0, 1) := by decide +kernel
theorem dX12_matching_6 : decode mX12_matching.cd 6 = .ok (.iload_n 3, 1) := by decide +kernel
theorem dX12_matching_7 : decode mX12_matching.cd 7 = .ok (.iconst (-1), 1) := by decide +kernel
theorem dX12_matching_8 : decode mX12_matching.cd 8 = .ok (.if_icmp .lt 7, 3) := by decide +kernel
theorem dX12_matching_11 : decode mX12_matching.cd 11 = .ok (.iconst 1, 1) := by decide +kernel
theorem dX12_matching_12 : decode mX12_matching.cd 12 = .ok (.goto 4, 3) := by decide +kernel
theorem dX12_matching_15 : decode mX12_matching.cd 15 = .ok (.iconst 0, 1) := by decide +kernel
theorem dX12_matching_16 : decode mX12_matching.cd 16 = .ok (.iconst 1, 1) := by decide +kernel
theorem dX12_matching_17 : decode mX12_matching.cd 17 = .ok (.invokevirtual 260, 3) := by decide +kernel
theorem dX12_matching_20 : decode mX12_matching.cd 20 = .ok (.ifCond .ne 5, 3) := by decide +kernel
theorem dX12_matching_23 : decode mX12_matching.cd 23 = .ok (.iconst 0, 1) := by decide +kernel
theorem dX12_matching_24 : decode mX12_matching.cd 24 = .ok (.ireturn, 1) := by decide +kernel
theorem dX12_matching_25 : decode mX12_matching.cd 25 = .ok (.iconst 0, 1) := by decide +kernel
theorem dX12_matching_26 : decode mX12_matching.cd 26 = .ok (.istore 4, 2) := by decide +kernel
theorem dX12_matching_28 : decode mX12_matching.cd 28 = .ok (.iconst 0, 1) := by decide +kernel
theorem dX12_matching_29 : decode mX12_matching.cd 29 = .ok (.istore 5, 2) := by decide +kernel
theorem dX12_matching_31 : decode mX12_matching.cd 31 = .ok (.iload 5, 2) := by decide +kernel
theorem dX12_matching_33 : decode mX12_matching.cd 33 = .ok (.sipush 961, 3) := by decide +kernel
theorem dX12_matching_36 : decode mX12_matching.cd 36 = .ok (.if_icmp .ge 35, 3) := by decide +kernel
theorem dX12_matching_39 : decode mX12_matching.cd 39 = .ok (.aload_n 0, 1) := by decide +kernel
theorem dX12_matching_40 : decode mX12_matching.cd 40 = .ok (.iload 5, 2) := by decide +kernel
theorem dX12_matching_42 : decode mX12_matching.cd 42 = .ok (.iload_n 1, 1) := by decide +kernel
theorem dX12_matching_43 : decode mX12_matching.cd 43 = .ok (.iload_n 2, 1) := by decide +kernel
theorem dX12_matching_44 : decode mX12_matching.cd 44 = .ok (.invokevirtual 451, 3) := by decide +kernel
theorem dX12_matching_47 : decode mX12_matching.cd 47 = .ok (.ifCond .ne 6, 3) := by decide +kernel
theorem dX12_matching_50 : decode mX12_matching.cd 50 = .ok (.goto 15, 3) := by decide +kernel
theorem dX12_matching_53 : decode mX12_matching.cd 53 = .ok (.iload 4, 2) := by decide +kernel
theorem dX12_matching_55 : decode mX12_matching.cd 55 = .ok (.iload_n 3, 1) := by decide +kernel
theorem dX12_matching_56 : decode mX12_matching.cd 56 = .ok (.if_icmp .ne 6, 3) := by decide +kernel
theorem dX12_matching_59 : decode mX12_matching.cd 59 = .ok (.iload 5, 2) := by decide +kernel
theorem dX12_matching_61 : decode mX12_matching.cd 61 = .ok (.ireturn, 1) := by decide +kernel
theorem dX12_matching_62 : decode mX12_matching.cd 62 = .ok (.iinc 4 1, 3) := by decide +kernel
theorem dX12_matching_65 : decode mX12_matching.cd 65 = .ok (.iinc 5 1, 3) := by decide +kernel
theorem dX12_matching_68 : decode mX12_matching.cd 68 = .ok (.goto (-37), 3) := by decide +kernel
theorem dX12_matching_71 : decode mX12_matching.cd 71 = .ok (.aload_n 0, 1) := by decide +kernel
theorem dX12_matching_72 : decode mX12_matching.cd 72 = .ok (.iload_n 3, 1) := by decide +kernel
theorem dX12_matching_73 : decode mX12_matching.cd 73 = .ok (.iconst (-1), 1) := by decide +kernel
theorem dX12_matching_74 : decode mX12_matching.cd 74 = .ok (.if_icmp .ne 7, 3) := by decide +kernel
theorem dX12_matching_77 : decode mX12_matching.cd 77 = .ok (.iconst 1, 1) := by decide +kernel
theorem dX12_matching_78 : decode mX12_matching.cd 78 = .ok (.goto 4, 3) := by decide +kernel
theorem dX12_matching_81 : decode mX12_matching.cd 81 = .ok (.iconst 0, 1) := by decide +kernel
theorem dX12_matching_82 : decode mX12_matching.cd 82 = .ok (.iconst 1, 1) := by decide +kernel
theorem dX12_matching_83 : decode mX12_matching.cd 83 = .ok (.invokevirtual 260, 3) := by decide +kernel
theorem dX12_matching_86 : decode mX12_matching.cd 86 = .ok (.ifCond .eq 8, 3) := by decide +kernel
theorem dX12_matching_89 : decode mX12_matching.cd 89 = .ok (.iload 4, 2) := by decide +kernel
theorem dX12_matching_91 : decode mX12_matching.cd 91 = .ok (.goto 4, 3) := by decide +kernel
theorem dX12_matching_94 : decode mX12_matching.cd 94 = .ok (.iconst 0, 1) := by decide +kernel
theorem dX12_matching_95 : decode mX12_matching.cd 95 = .ok (.ireturn, 1) := by decide +kernel
theorem bX12_matching_0 {fr M1 M2 b1 b2 : Nat} {Q : RS → Nat → AH → Prop} {h : AH} {l1 l2 l3 : Int} {x4 x5 : AV}  (r1 : -2147483648 ≤ l3 ∧ l3 < 2147483648 := by omega) (kt : l3 < (-1) → Wp mX12_matching (kR fr M1 M2) Q (b1, b2) 15 [zR 98, zI l1, zI l2, zI l3, none, none] [zR 98] 137 (up h 98 0 0)) (kf : (-1) ≤ l3 → Wp mX12_matching (kR fr M1 M2) Q (b1, b2) 11 [zR 98, zI l1, zI l2, zI l3, none, none] [zR 98] 137 (up h 98 0 0)) : Wp mX12_matching (kR fr M1 M2) Q (b1, b2) 0 [zR 98, zI l1, zI l2, zI l3, x4, x5] [] 137 h := by
  refine s_fgt (fgt_c (fgt_c (fgt_c (fgt_c (fgt_n _ (fgt_n _ fgt_0)))))) ?_
  refine s_aload_n (x := 98) dX12_matching_0 rfl ?_
  refine s_iconst dX12_matching_1 ?_
  refine s_put (c := 98) dX12_matching_2 lX12_136 e98 ?_
  refine s_aload_n (x := 98) dX12_matching_5 rfl ?_
  refine s_iload_n (x := l3) dX12_matching_6 rfl ?_
  refine s_iconst dX12_matching_7 ?_
  exact s_icmp_lt (tgt := 15) dX12_matching_8 (by decide) r1 ⟨by decide, by decide⟩ kt kf
theorem bX12_matching_11 {fr M1 M2 b1 b2 : Nat} {Q : RS → Nat → AH → Prop} {h : AH} {l1 l2 l3 : Int} {x4 x5 : AV}   (kk : Wp mX12_matching (kR fr M1 M2) Q (b1, b2) 16 [zR 98, zI l1, zI l2, zI l3, none, none] [zI 1, zR 98] 137 h) : Wp mX12_matching (kR fr M1 M2) Q (b1, b2) 11 [zR 98, zI l1, zI l2, zI l3, x4, x5] [zR 98] 137 h := by
  refine s_fgt (fgt_c (fgt_c (fgt_c (fgt_c (fgt_n _ (fgt_n _ fgt_0)))))) ?_
  refine s_iconst dX12_matching_11 ?_
  exact s_goto (tgt := 16) dX12_matching_12 (by decide) kk
theorem bX12_matching_15 {fr M1 M2 b1 b2 : Nat} {Q : RS → Nat → AH → Prop} {h : AH} {l1 l2 l3 : Int} {x4 x5 : AV}   (kk : Wp mX12_matching (kR fr M1 M2) Q (b1, b2) 16 [zR 98, zI l1, zI l2, zI l3, none, none] [zI 0, zR 98] 137 h) : Wp mX12_matching (kR fr M1 M2) Q (b1, b2) 15 [zR 98, zI l1, zI l2, zI l3, x4, x5] [zR 98] 137 h := by
  refine s_fgt (fgt_c (fgt_c (fgt_c (fgt_c (fgt_n _ (fgt_n _ fgt_0)))))) ?_
  refine s_iconst dX12_matching_15 ?_
  exact kk
theorem bX12_matching_16 {fr M1 M2 b1 b2 : Nat} {Q : RS → Nat → AH → Prop} {h : AH} {l1 l2 l3 s0 : Int} {x4 x5 : AV} {R : Int → AH → Prop}   (hS : Sp mX12_right true (fr - 1) 0 0 [zR 98, zI s0, zI 1] 137 h (rI R)) (hf : 1 ≤ fr := by omega) (kk : ∀ (x : Int) (h' : AH), R x h' → Wp mX12_matching (kR fr M1 M2) Q (b1, b2) 20 [zR 98, zI l1, zI l2, zI l3, none, none] [zI x] 137 h') : Wp mX12_matching (kR fr M1 M2) Q (b1, b2) 16 [zR 98, zI l1, zI l2, zI l3, x4, x5] [zI s0, zR 98] 137 h := by
  refine s_fgt (fgt_c (fgt_c (fgt_c (fgt_c (fgt_n _ (fgt_n _ fgt_0)))))) ?_
  refine s_iconst dX12_matching_16 ?_
  exact s_callV (as := [zI s0, zI 1]) (st := []) (o := 98) dX12_matching_17 kX12_260 rfl ⟨12, 87, TX12, e98, rfl, by decide⟩ rfl rfl (Nat.le_of_ble_eq_true rfl) hS (show fr - 1 + 1 ≤ fr by omega) (Nat.zero_le _) (Nat.zero_le _) (fun v n' h' hP _ => by obtain ⟨x, e, rfl, hR⟩ := hP; cases e; exact kk x h' hR) (fun E n' h' _ z => (rI_nt _ _ _ z).elim)
theorem bX12_matching_20 {fr M1 M2 b1 b2 : Nat} {Q : RS → Nat → AH → Prop} {h : AH} {l1 l2 l3 s0 : Int} {x4 x5 : AV}  (r1 : -2147483648 ≤ s0 ∧ s0 < 2147483648 := by omega) (kt : ¬ s0 = 0 → Wp mX12_matching (kR fr M1 M2) Q (b1, b2) 25 [zR 98, zI l1, zI l2, zI l3, none, none] [] 137 h) (kf : s0 = 0 → Wp mX12_matching (kR fr M1 M2) Q (b1, b2) 23 [zR 98, zI l1, zI l2, zI l3, none, none] [] 137 h) : Wp mX12_matching (kR fr M1 M2) Q (b1, b2) 20 [zR 98, zI l1, zI l2, zI l3, x4, x5] [zI s0] 137 h := by
  refine s_fgt (fgt_c (fgt_c (fgt_c (fgt_c (fgt_n _ (fgt_n _ fgt_0)))))) ?_
  exact s_if_ne (tgt := 25) dX12_matching_20 (by decide) r1 kt kf
theorem bX12_matching_23 {fr M1 M2 b1 b2 : Nat} {Q : RS → Nat → AH → Prop} {h : AH} {x0 x1 x2 x3 x4 x5 : AV}   (hq : Q (.inl (some (zI 0))) 137 h) : Wp mX12_matching (kR fr M1 M2) Q (b1, b2) 23 [x0, x1, x2, x3, x4, x5] [] 137 h := by
  refine s_fgt (fgt_n _ (fgt_n _ (fgt_n _ (fgt_n _ (fgt_n _ (fgt_n _ fgt_0)))))) ?_
  refine s_iconst dX12_matching_23 ?_
  exact s_ireturn dX12_matching_24 ⟨.int, rfl, rfl⟩ hq (fun z => by cases z)
theorem bX12_matching_25 {fr M1 M2 b1 b2 : Nat} {Q : RS → Nat → AH → Prop} {h : AH} {l1 l2 l3 : Int} {x4 x5 : AV}   (kk : Wp mX12_matching (kR fr M1 M2) Q (b1, b2) 31 [zR 98, zI l1, zI l2, zI l3, zI 0, zI 0] [] 137 h) : Wp mX12_matching (kR fr M1 M2) Q (b1, b2) 25 [zR 98, zI l1, zI l2, zI l3, x4, x5] [] 137 h := by
  refine s_fgt (fgt_c (fgt_c (fgt_c (fgt_c (fgt_n _ (fgt_n _ fgt_0)))))) ?_
  refine s_iconst dX12_matching_25 ?_
  refine s_istore dX12_matching_26 rfl (by decide) ?_
  refine s_iconst dX12_matching_28 ?_
  refine s_istore dX12_matching_29 rfl (by decide) ?_
  exact kk
theorem bX12_matching_31 {fr M1 M2 b1 b2 : Nat} {Q : RS → Nat → AH → Prop} {h : AH} {l1 l2 l3 l4 l5 : Int}  (r1 : -2147483648 ≤ l5 ∧ l5 < 2147483648 := by omega) (kt : 961 ≤ l5 → Wp mX12_matching (kR fr M1 M2) Q (b1, b2) 71 [zR 98, zI l1, zI l2, zI l3, zI l4, zI l5] [] 137 h) (kf : l5 < 961 → Wp mX12_matching (kR fr M1 M2) Q (b1, b2) 39 [zR 98, zI l1, zI l2, zI l3, zI l4, zI l5] [] 137 h) : Wp mX12_matching (kR fr M1 M2) Q (b1, b2) 31 [zR 98, zI l1, zI l2, zI l3, zI l4, zI l5] [] 137 h := by
  refine s_iload (x := l5) dX12_matching_31 rfl ?_
  refine s_sipush dX12_matching_33 (by decide) ?_
  exact s_icmp_ge (tgt := 71) dX12_matching_36 (by decide) r1 ⟨by decide, by decide⟩ kt kf
theorem bX12_matching_39 {fr M1 M2 b1 b2 : Nat} {Q : RS → Nat → AH → Prop} {h : AH} {l1 l2 l3 l4 l5 : Int} {R : Int → AH → Prop}   (hS : Sp mX12_matches true (fr - 1) 0 0 [zR 98, zI l5, zI l1, zI l2] 137 h (rI R)) (hf : 1 ≤ fr := by omega) (kk : ∀ (x : Int) (h' : AH), R x h' → Wp mX12_matching (kR fr M1 M2) Q (b1, b2) 47 [zR 98, zI l1, zI l2, zI l3, zI l4, zI l5] [zI x] 137 h') : Wp mX12_matching (kR fr M1 M2) Q (b1, b2) 39 [zR 98, zI l1, zI l2, zI l3, zI l4, zI l5] [] 137 h := by
  refine s_aload_n (x := 98) dX12_matching_39 rfl ?_
  refine s_iload (x := l5) dX12_matching_40 rfl ?_
  refine s_iload_n (x := l1) dX12_matching_42 rfl ?_
  refine s_iload_n (x := l2) dX12_matching_43 rfl ?_
  exact s_callV (as := [zI l5, zI l1, zI l2]) (st := []) (o := 98) dX12_matching_44 kX12_451 rfl ⟨12, 87, TX12, e98, rfl, by decide⟩ rfl rfl (Nat.le_of_ble_eq_true rfl) hS (show fr - 1 + 1 ≤ fr by omega) (Nat.zero_le _) (Nat.zero_le _) (fun v n' h' hP _ => by obtain ⟨x, e, rfl, hR⟩ := hP; cases e; exact kk x h' hR) (fun E n' h' _ z => (rI_nt _ _ _ z).elim)
theorem bX12_matching_47 {fr M1 M2 b1 b2 : Nat} {Q : RS → Nat → AH → Prop} {h : AH} {l1 l2 l3 l4 l5 s0 : Int}  (r1 : -2147483648 ≤ s0 ∧ s0 < 2147483648 := by omega) (kt : ¬ s0 = 0 → Wp mX12_matching (kR fr M1 M2) Q (b1, b2) 53 [zR 98, zI l1, zI l2, zI l3, zI l4, zI l5] [] 137 h) (kf : s0 = 0 → Wp mX12_matching (kR fr M1 M2) Q (b1, b2) 50 [zR 98, zI l1, zI l2, zI l3, zI l4, zI l5] [] 137 h) : Wp mX12_matching (kR fr M1 M2) Q (b1, b2) 47 [zR 98, zI l1, zI l2, zI l3, zI l4, zI l5] [zI s0] 137 h := by
  exact s_if_ne (tgt := 53) dX12_matching_47 (by decide) r1 kt kf
theorem bX12_matching_50 {fr M1 M2 b1 b2 : Nat} {Q : RS → Nat → AH → Prop} {h : AH} {l1 l2 l3 l4 l5 : Int}   (kk : Wp mX12_matching (kR fr M1 M2) Q (b1, b2) 65 [zR 98, zI l1, zI l2, zI l3, zI l4, zI l5] [] 137 h) : Wp mX12_matching (kR fr M1 M2) Q (b1, b2) 50 [zR 98, zI l1, zI l2, zI l3, zI l4, zI l5] [] 137 h := by
  exact s_goto (tgt := 65) dX12_matching_50 (by decide) kk
theorem bX12_matching_53 {fr M1 M2 b1 b2 : Nat} {Q : RS → Nat → AH → Prop} {h : AH} {l1 l2 l3 l4 l5 : Int}  (r1 : -2147483648 ≤ l4 ∧ l4 < 2147483648 := by omega) (r2 : -2147483648 ≤ l3 ∧ l3 < 2147483648 := by omega) (kt : ¬ l4 = l3 → Wp mX12_matching (kR fr M1 M2) Q (b1, b2) 62 [zR 98, zI l1, zI l2, zI l3, zI l4, zI l5] [] 137 h) (kf : l4 = l3 → Wp mX12_matching (kR fr M1 M2) Q (b1, b2) 59 [zR 98, zI l1, zI l2, zI l3, zI l4, zI l5] [] 137 h) : Wp mX12_matching (kR fr M1 M2) Q (b1, b2) 53 [zR 98, zI l1, zI l2, zI l3, zI l4, zI l5] [] 137 h := by
  refine s_iload (x := l4) dX12_matching_53 rfl ?_
  refine s_iload_n (x := l3) dX12_matching_55 rfl ?_
  exact s_icmp_ne (tgt := 62) dX12_matching_56 (by decide) r1 r2 kt kf
theorem bX12_matching_59 {fr M1 M2 b1 b2 : Nat} {Q : RS → Nat → AH → Prop} {h : AH} {l5 : Int} {x0 x1 x2 x3 x4 : AV}   (hq : Q (.inl (some (zI l5))) 137 h) : Wp mX12_matching (kR fr M1 M2) Q (b1, b2) 59 [x0, x1, x2, x3, x4, zI l5] [] 137 h := by
  refine s_fgt (fgt_n _ (fgt_n _ (fgt_n _ (fgt_n _ (fgt_n _ (fgt_c fgt_0)))))) ?_
  refine s_iload (x := l5) dX12_matching_59 rfl ?_
  exact s_ireturn dX12_matching_61 ⟨.int, rfl, rfl⟩ hq (fun z => by cases z)
theorem bX12_matching_62 {fr M1 M2 b1 b2 : Nat} {Q : RS → Nat → AH → Prop} {h : AH} {l1 l2 l3 l4 l5 : Int}   (kk : Wp mX12_matching (kR fr M1 M2) Q (b1, b2) 65 [zR 98, zI l1, zI l2, zI l3, zI (l4 + 1), zI l5] [] 137 h) : Wp mX12_matching (kR fr M1 M2) Q (b1, b2) 62 [zR 98, zI l1, zI l2, zI l3, zI l4, zI l5] [] 137 h := by
  refine s_iinc (x := l4) dX12_matching_62 rfl rfl (by decide) ?_
  exact kk
theorem bX12_matching_65 {fr M1 M2 b1 b2 : Nat} {Q : RS → Nat → AH → Prop} {h : AH} {l1 l2 l3 l4 l5 : Int}   (kk : Wp mX12_matching (kR fr M1 M2) Q (b1, b2) 31 [zR 98, zI l1, zI l2, zI l3, zI l4, zI (l5 + 1)] [] 137 h) : Wp mX12_matching (kR fr M1 M2) Q (b1, b2) 65 [zR 98, zI l1, zI l2, zI l3, zI l4, zI l5] [] 137 h := by
  refine s_iinc (x := l5) dX12_matching_65 rfl rfl (by decide) ?_
  exact s_goto (tgt := 31) dX12_matching_68 (by decide) kk
theorem bX12_matching_71 {fr M1 M2 b1 b2 : Nat} {Q : RS → Nat → AH → Prop} {h : AH} {l3 l4 : Int} {x1 x2 x5 : AV}  (r1 : -2147483648 ≤ l3 ∧ l3 < 2147483648 := by omega) (kt : ¬ l3 = (-1) → Wp mX12_matching (kR fr M1 M2) Q (b1, b2) 81 [zR 98, none, none, zI l3, zI l4, none] [zR 98] 137 h) (kf : l3 = (-1) → Wp mX12_matching (kR fr M1 M2) Q (b1, b2) 77 [zR 98, none, none, zI l3, zI l4, none] [zR 98] 137 h) : Wp mX12_matching (kR fr M1 M2) Q (b1, b2) 71 [zR 98, x1, x2, zI l3, zI l4, x5] [] 137 h := by
  refine s_fgt (fgt_c (fgt_n _ (fgt_n _ (fgt_c (fgt_c (fgt_n _ fgt_0)))))) ?_
  refine s_aload_n (x := 98) dX12_matching_71 rfl ?_
  refine s_iload_n (x := l3) dX12_matching_72 rfl ?_
  refine s_iconst dX12_matching_73 ?_
  exact s_icmp_ne (tgt := 81) dX12_matching_74 (by decide) r1 ⟨by decide, by decide⟩ kt kf
theorem bX12_matching_77 {fr M1 M2 b1 b2 : Nat} {Q : RS → Nat → AH → Prop} {h : AH} {l4 : Int} {x0 x1 x2 x3 x5 : AV}   (kk : Wp mX12_matching (kR fr M1 M2) Q (b1, b2) 82 [none, none, none, none, zI l4, none] [zI 1, zR 98] 137 h) : Wp mX12_matching (kR fr M1 M2) Q (b1, b2) 77 [x0, x1, x2, x3, zI l4, x5] [zR 98] 137 h := by
  refine s_fgt (fgt_n _ (fgt_n _ (fgt_n _ (fgt_n _ (fgt_c (fgt_n _ fgt_0)))))) ?_
  refine s_iconst dX12_matching_77 ?_
  exact s_goto (tgt := 82) dX12_matching_78 (by decide) kk
theorem bX12_matching_81 {fr M1 M2 b1 b2 : Nat} {Q : RS → Nat → AH → Prop} {h : AH} {l4 : Int} {x0 x1 x2 x3 x5 : AV}   (kk : Wp mX12_matching (kR fr M1 M2) Q (b1, b2) 82 [none, none, none, none, zI l4, none] [zI 0, zR 98] 137 h) : Wp mX12_matching (kR fr M1 M2) Q (b1, b2) 81 [x0, x1, x2, x3, zI l4, x5] [zR 98] 137 h := by
  refine s_fgt (fgt_n _ (fgt_n _ (fgt_n _ (fgt_n _ (fgt_c (fgt_n _ fgt_0)))))) ?_
  refine s_iconst dX12_matching_81 ?_
  exact kk
theorem bX12_matching_82 {fr M1 M2 b1 b2 : Nat} {Q : RS → Nat → AH → Prop} {h : AH} {l4 s0 : Int} {x0 x1 x2 x3 x5 : AV} {R : Int → AH → Prop}   (hS : Sp mX12_right true (fr - 1) 0 0 [zR 98, zI s0, zI 1] 137 h (rI R)) (hf : 1 ≤ fr := by omega) (kk : ∀ (x : Int) (h' : AH), R x h' → Wp mX12_matching (kR fr M1 M2) Q (b1, b2) 86 [none, none, none, none, zI l4, none] [zI x] 137 h') : Wp mX12_matching (kR fr M1 M2) Q (b1, b2) 82 [x0, x1, x2, x3, zI l4, x5] [zI s0, zR 98] 137 h := by
  refine s_fgt (fgt_n _ (fgt_n _ (fgt_n _ (fgt_n _ (fgt_c (fgt_n _ fgt_0)))))) ?_
  refine s_iconst dX12_matching_82 ?_
  exact s_callV (as := [zI s0, zI 1]) (st := []) (o := 98) dX12_matching_83 kX12_260 rfl ⟨12, 87, TX12, e98, rfl, by decide⟩ rfl rfl (Nat.le_of_ble_eq_true rfl) hS (show fr - 1 + 1 ≤ fr by omega) (Nat.zero_le _) (Nat.zero_le _) (fun v n' h' hP _ => by obtain ⟨x, e, rfl, hR⟩ := hP; cases e; exact kk x h' hR) (fun E n' h' _ z => (rI_nt _ _ _ z).elim)
theorem bX12_matching_86 {fr M1 M2 b1 b2 : Nat} {Q : RS → Nat → AH → Prop} {h : AH} {l4 s0 : Int} {x0 x1 x2 x3 x5 : AV}  (r1 : -2147483648 ≤ s0 ∧ s0 < 2147483648 := by omega) (kt : s0 = 0 → Wp mX12_matching (kR fr M1 M2) Q (b1, b2) 94 [none, none, none, none, zI l4, none] [] 137 h) (kf : ¬ s0 = 0 → Wp mX12_matching (kR fr M1 M2) Q (b1, b2) 89 [none, none, none, none, zI l4, none] [] 137 h) : Wp mX12_matching (kR fr M1 M2) Q (b1, b2) 86 [x0, x1, x2, x3, zI l4, x5] [zI s0] 137 h := by
  refine s_fgt (fgt_n _ (fgt_n _ (fgt_n _ (fgt_n _ (fgt_c (fgt_n _ fgt_0)))))) ?_
  exact s_if_eq (tgt := 94) dX12_matching_86 (by decide) r1 kt kf
theorem bX12_matching_89 {fr M1 M2 b1 b2 : Nat} {Q : RS → Nat → AH → Prop} {h : AH} {l4 : Int} {x0 x1 x2 x3 x5 : AV}   (kk : Wp mX12_matching (kR fr M1 M2) Q (b1, b2) 95 [none, none, none, none, zI l4, none] [zI l4] 137 h) : Wp mX12_matching (kR fr M1 M2) Q (b1, b2) 89 [x0, x1, x2, x3, zI l4, x5] [] 137 h := by
  refine s_fgt (fgt_n _ (fgt_n _ (fgt_n _ (fgt_n _ (fgt_c (fgt_n _ fgt_0)))))) ?_
  refine s_iload (x := l4) dX12_matching_89 rfl ?_
  exact s_goto (tgt := 95) dX12_matching_91 (by decide) kk
theorem bX12_matching_94 {fr M1 M2 b1 b2 : Nat} {Q : RS → Nat → AH → Prop} {h : AH} {x0 x1 x2 x3 x4 x5 : AV}   (kk : Wp mX12_matching (kR fr M1 M2) Q (b1, b2) 95 [none, none, none, none, none, none] [zI 0] 137 h) : Wp mX12_matching (kR fr M1 M2) Q (b1, b2) 94 [x0, x1, x2, x3, x4, x5] [] 137 h := by
  refine s_fgt (fgt_n _ (fgt_n _ (fgt_n _ (fgt_n _ (fgt_n _ (fgt_n _ fgt_0)))))) ?_
  refine s_iconst dX12_matching_94 ?_
  exact kk
theorem bX12_matching_95 {fr M1 M2 b1 b2 : Nat} {Q : RS → Nat → AH → Prop} {h : AH} {s0 : Int} {x0 x1 x2 x3 x4 x5 : AV}   (hq : Q (.inl (some (zI s0))) 137 h) : Wp mX12_matching (kR fr M1 M2) Q (b1, b2) 95 [x0, x1, x2, x3, x4, x5] [zI s0] 137 h := by
  refine s_fgt (fgt_n _ (fgt_n _ (fgt_n _ (fgt_n _ (fgt_n _ (fgt_n _ fgt_0)))))) ?_
  exact s_ireturn dX12_matching_95 ⟨.int, rfl, rfl⟩ hq (fun z => by cases z)
theorem dX12_moved_0 : decode mX12_moved.cd 0 = .ok (.aload_n 0, 1) := by decide +kernel
theorem dX12_moved_1 : decode mX12_moved.cd 1 = .ok (.iconst 0, 1) := by decide +kernel
theorem dX12_moved_2 : decode mX12_moved.cd 2 = .ok (.putfield 136, 3) := by decide +kernel
theorem dX12_moved_5 : decode mX12_moved.cd 5 = .ok (.aload_n 0, 1) := by decide +kernel
theorem dX12_moved_6 : decode mX12_moved.cd 6 = .ok (.iload 5, 2) := by decide +kernel
theorem dX12_moved_8 : decode mX12_moved.cd 8 = .ok (.iconst 0, 1) := by decide +kernel
theorem dX12_moved_9 : decode mX12_moved.cd 9 = .ok (.bipush 60, 2) := by decide +kernel
theorem dX12_moved_11 : decode mX12_moved.cd 11 = .ok (.invokestatic 301, 3) := by decide +kernel
theorem dX12_moved_14 : decode mX12_moved.cd 14 = .ok (.iconst 1, 1) := by decide +kernel
theorem dX12_moved_15 : decode mX12_moved.cd 15 = .ok (.invokevirtual 260, 3) := by decide +kernel
theorem dX12_moved_18 : decode mX12_moved.cd 18 = .ok (.ifCond .ne 5, 3) := by decide +kernel
theorem dX12_moved_21 : decode mX12_moved.cd 21 = .ok (.iconst 0, 1) := by decide +kernel
theorem dX12_moved_22 : decode mX12_moved.cd 22 = .ok (.ireturn, 1) := by decide +kernel
theorem dX12_moved_23 : decode mX12_moved.cd 23 = .ok (.iconst 0, 1) := by decide +kernel
theorem dX12_moved_24 : decode mX12_moved.cd 24 = .ok (.istore 6, 2) := by decide +kernel
theorem dX12_moved_26 : decode mX12_moved.cd 26 = .ok (.iload 6, 2) := by decide +kernel
theorem dX12_moved_28 : decode mX12_moved.cd 28 = .ok (.sipush 961, 3) := by decide +kernel
theorem dX12_moved_31 : decode mX12_moved.cd 31 = .ok (.if_icmp .ge 40, 3) := by decide +kernel
theorem dX12_moved_34 : decode mX12_moved.cd 34 = .ok (.aload_n 0, 1) := by decide +kernel
theorem dX12_moved_35 : decode mX12_moved.cd 35 = .ok (.getfield 111, 3) := by decide +kernel
theorem dX12_moved_38 : decode mX12_moved.cd 38 = .ok (.iload 6, 2) := by decide +kernel
theorem dX12_moved_40 : decode mX12_moved.cd 40 = .ok (.aload_n 0, 1) := by decide +kernel
theorem dX12_moved_41 : decode mX12_moved.cd 41 = .ok (.iload 6, 2) := by decide +kernel
theorem dX12_moved_43 : decode mX12_moved.cd 43 = .ok (.iload_n 1, 1) := by decide +kernel
theorem dX12_moved_44 : decode mX12_moved.cd 44 = .ok (.iload_n 2, 1) := by decide +kernel
theorem dX12_moved_45 : decode mX12_moved.cd 45 = .ok (.invokevirtual 451, 3) := by decide +kernel
theorem dX12_moved_48 : decode mX12_moved.cd 48 = .ok (.bastore, 1) := by decide +kernel
theorem dX12_moved_49 : decode mX12_moved.cd 49 = .ok (.aload_n 0, 1) := by decide +kernel
theorem dX12_moved_50 : decode mX12_moved.cd 50 = .ok (.getfield 115, 3) := by decide +kernel
theorem dX12_moved_53 : decode mX12_moved.cd 53 = .ok (.iload 6, 2) := by decide +kernel
theorem dX12_moved_55 : decode mX12_moved.cd 55 = .ok (.aload_n 0, 1) := by decide +kernel
theorem dX12_moved_56 : decode mX12_moved.cd 56 = .ok (.iload 6, 2) := by decide +kernel
theorem dX12_moved_58 : decode mX12_moved.cd 58 = .ok (.iload_n 3, 1) := by decide +kernel
theorem dX12_moved_59 : decode mX12_moved.cd 59 = .ok (.iload 4, 2) := by decide +kernel
theorem dX12_moved_61 : decode mX12_moved.cd 61 = .ok (.invokevirtual 451, 3) := by decide +kernel
theorem dX12_moved_64 : decode mX12_moved.cd 64 = .ok (.bastore, 1) := by decide +kernel
theorem dX12_moved_65 : decode mX12_moved.cd 65 = .ok (.iinc 6 1, 3) := by decide +kernel
theorem dX12_moved_68 : decode mX12_moved.cd 68 = .ok (.goto (-42), 3) := by decide +kernel
theorem dX12_moved_71 : decode mX12_moved.cd 71 = .ok (.iconst 0, 1) := by decide +kernel
theorem dX12_moved_72 : decode mX12_moved.cd 72 = .ok (.istore 6, 2) := by decide +kernel
theorem dX12_moved_74 : decode mX12_moved.cd 74 = .ok (.iconst 0, 1) := by decide +kernel
theorem dX12_moved_75 : decode mX12_moved.cd 75 = .ok (.istore 7, 2) := by decide +kernel
theorem dX12_moved_77 : decode mX12_moved.cd 77 = .ok (.iload 7, 2) := by decide +kernel
theorem dX12_moved_79 : decode mX12_moved.cd 79 = .ok (.sipush 961, 3) := by decide +kernel
theorem dX12_moved_82 : decode mX12_moved.cd 82 = .ok (.if_icmp .ge 120, 3) := by decide +kernel
theorem dX12_moved_85 : decode mX12_moved.cd 85 = .ok (.aload_n 0, 1) := by decide +kernel
theorem dX12_moved_86 : decode mX12_moved.cd 86 = .ok (.getfield 111, 3) := by decide +kernel
theorem dX12_moved_89 : decode mX12_moved.cd 89 = .ok (.iload 7, 2) := by decide +kernel
theorem dX12_moved_91 : decode mX12_moved.cd 91 = .ok (.baload, 1) := by decide +kernel
theorem dX12_moved_92 : decode mX12_moved.cd 92 = .ok (.ifCond .ne 6, 3) := by decide +kernel
theorem dX12_moved_95 : decode mX12_moved.cd 95 = .ok (.goto 101, 3) := by decide +kernel
theorem dX12_moved_98 : decode mX12_moved.cd 98 = .ok (.iconst 0, 1) := by decide +kernel
theorem dX12_moved_99 : decode mX12_moved.cd 99 = .ok (.istore 8, 2) := by decide +kernel
theorem dX12_moved_101 : decode mX12_moved.cd 101 = .ok (.iload 8, 2) := by decide +kernel
theorem dX12_moved_103 : decode mX12_moved.cd 103 = .ok (.sipush 961, 3) := by decide +kernel
theorem dX12_moved_106 : decode mX12_moved.cd 106 = .ok (.if_icmp .ge 90, 3) := by decide +kernel
theorem dX12_moved_109 : decode mX12_moved.cd 109 = .ok (.aload_n 0, 1) := by decide +kernel
theorem dX12_moved_110 : decode mX12_moved.cd 110 = .ok (.getfield 115, 3) := by decide +kernel
theorem dX12_moved_113 : decode mX12_moved.cd 113 = .ok (.iload 8, 2) := by decide +kernel
theorem dX12_moved_115 : decode mX12_moved.cd 115 = .ok (.baload, 1) := by decide +kernel
theorem dX12_moved_116 : decode mX12_moved.cd 116 = .ok (.ifCond .ne 6, 3) := by decide +kernel
theorem dX12_moved_119 : decode mX12_moved.cd 119 = .ok (.goto 71, 3) := by decide +kernel
theorem dX12_moved_122 : decode mX12_moved.cd 122 = .ok (.iload 7, 2) := by decide +kernel
theorem dX12_moved_124 : decode mX12_moved.cd 124 = .ok (.bipush 31, 2) := by decide +kernel
theorem dX12_moved_126 : decode mX12_moved.cd 126 = .ok (.irem, 1) := by decide +kernel
theorem dX12_moved_127 : decode mX12_moved.cd 127 = .ok (.iload 8, 2) := by decide +kernel
theorem dX12_moved_129 : decode mX12_moved.cd 129 = .ok (.bipush 31, 2) := by decide +kernel
theorem dX12_moved_131 : decode mX12_moved.cd 131 = .ok (.irem, 1) := by decide +kernel
theorem dX12_moved_132 : decode mX12_moved.cd 132 = .ok (.isub, 1) := by decide +kernel
theorem dX12_moved_133 : decode mX12_moved.cd 133 = .ok (.istore 9, 2) := by decide +kernel
theorem dX12_moved_135 : decode mX12_moved.cd 135 = .ok (.iload 7, 2) := by decide +kernel
theorem dX12_moved_137 : decode mX12_moved.cd 137 = .ok (.bipush 31, 2) := by decide +kernel
theorem dX12_moved_139 : decode mX12_moved.cd 139 = .ok (.idiv, 1) := by decide +kernel
theorem dX12_moved_140 : decode mX12_moved.cd 140 = .ok (.iload 8, 2) := by decide +kernel
theorem dX12_moved_142 : decode mX12_moved.cd 142 = .ok (.bipush 31, 2) := by decide +kernel
theorem dX12_moved_144 : decode mX12_moved.cd 144 = .ok (.idiv, 1) := by decide +kernel
theorem dX12_moved_145 : decode mX12_moved.cd 145 = .ok (.isub, 1) := by decide +kernel
theorem dX12_moved_146 : decode mX12_moved.cd 146 = .ok (.istore 10, 2) := by decide +kernel
theorem dX12_moved_148 : decode mX12_moved.cd 148 = .ok (.iload 6, 2) := by decide +kernel
theorem dX12_moved_150 : decode mX12_moved.cd 150 = .ok (.iload 9, 2) := by decide +kernel
theorem dX12_moved_152 : decode mX12_moved.cd 152 = .ok (.ifCond .ge 9, 3) := by decide +kernel
theorem dX12_moved_155 : decode mX12_moved.cd 155 = .ok (.iload 9, 2) := by decide +kernel
theorem dX12_moved_157 : decode mX12_moved.cd 157 = .ok (.ineg, 1) := by decide +kernel
theorem dX12_moved_158 : decode mX12_moved.cd 158 = .ok (.goto 5, 3) := by decide +kernel
theorem dX12_moved_161 : decode mX12_moved.cd 161 = .ok (.iload 9, 2) := by decide +kernel
theorem dX12_moved_163 : decode mX12_moved.cd 163 = .ok (.iload 10, 2) := by decide +kernel
theorem dX12_moved_165 : decode mX12_moved.cd 165 = .ok (.ifCond .ge 9, 3) := by decide +kernel
theorem dX12_moved_168 : decode mX12_moved.cd 168 = .ok (.iload 10, 2) := by decide +kernel
theorem dX12_moved_170 : decode mX12_moved.cd 170 = .ok (.ineg, 1) := by decide +kernel
theorem dX12_moved_171 : decode mX12_moved.cd 171 = .ok (.goto 5, 3) := by decide +kernel
theorem dX12_moved_174 : decode mX12_moved.cd 174 = .ok (.iload 10, 2) := by decide +kernel
theorem dX12_moved_176 : decode mX12_moved.cd 176 = .ok (.iadd, 1) := by decide +kernel
theorem dX12_moved_177 : decode mX12_moved.cd 177 = .ok (.iload 5, 2) := by decide +kernel
theorem dX12_moved_179 : decode mX12_moved.cd 179 = .ok (.if_icmp .gt 7, 3) := by decide +kernel
theorem dX12_moved_182 : decode mX12_moved.cd 182 = .ok (.iconst 1, 1) := by decide +kernel
theorem dX12_moved_183 : decode mX12_moved.cd 183 = .ok (.goto 4, 3) := by decide +kernel
theorem dX12_moved_186 : decode mX12_moved.cd 186 = .ok (.iconst 0, 1) := by decide +kernel
theorem dX12_moved_187 : decode mX12_moved.cd 187 = .ok (.iadd, 1) := by decide +kernel
theorem dX12_moved_188 : decode mX12_moved.cd 188 = .ok (.istore 6, 2) := by decide +kernel
theorem dX12_moved_190 : decode mX12_moved.cd 190 = .ok (.iinc 8 1, 3) := by decide +kernel
theorem dX12_moved_193 : decode mX12_moved.cd 193 = .ok (.goto (-92), 3) := by decide +kernel
theorem dX12_moved_196 : decode mX12_moved.cd 196 = .ok (.iinc 7 1, 3) := by decide +kernel
theorem dX12_moved_199 : decode mX12_moved.cd 199 = .ok (.goto (-122), 3) := by decide +kernel
theorem dX12_moved_202 : decode mX12_moved.cd 202 = .ok (.iload 6, 2) := by decide +kernel
theorem dX12_moved_204 : decode mX12_moved.cd 204 = .ok (.ireturn, 1) := by decide +kernel
theorem bX12_moved_0 {fr M1 M2 b1 b2 : Nat} {Q : RS → Nat → AH → Prop} {h : AH} {l1 l2 l3 l4 l5 : Int} {x6 x7 x8 x9 x10 : AV} {R : Int → AH → Prop}   (hS : Sp mX12_within true (fr - 1) 0 0 [zI l5, zI 0, zI 60] 137 (up h 98 0 0) (rI R)) (hf : 1 ≤ fr := by omega) (kk : ∀ (x : Int) (h' : AH), R x h' → Wp mX12_moved (kR fr M1 M2) Q (b1, b2) 14 [zR 98, zI l1, zI l2, zI l3, zI l4, zI l5, none, none, none, none, none] [zI x, zR 98] 137 h') : Wp mX12_moved (kR fr M1 M2) Q (b1, b2) 0 [zR 98, zI l1, zI l2, zI l3, zI l4, zI l5, x6, x7, x8, x9, x10] [] 137 h := by
  refine s_fgt (fgt_c (fgt_c (fgt_c (fgt_c (fgt_c (fgt_c (fgt_n _ (fgt_n _ (fgt_n _ (fgt_n _ (fgt_n _ fgt_0))))))))))) ?_
  refine s_aload_n (x := 98) dX12_moved_0 rfl ?_
  refine s_iconst dX12_moved_1 ?_
  refine s_put (c := 98) dX12_moved_2 lX12_136 e98 ?_
  refine s_aload_n (x := 98) dX12_moved_5 rfl ?_
  refine s_iload (x := l5) dX12_moved_6 rfl ?_
  refine s_iconst dX12_moved_8 ?_
  refine s_bipush dX12_moved_9 (by decide) ?_
  exact s_callS (as := [zI l5, zI 0, zI 60]) (st := [zR 98]) dX12_moved_11 kX12_301 rfl rfl (Nat.le_of_ble_eq_true rfl) hS (show fr - 1 + 1 ≤ fr by omega) (Nat.zero_le _) (Nat.zero_le _) (fun v n' h' hP _ => by obtain ⟨x, e, rfl, hR⟩ := hP; cases e; exact kk x h' hR) (fun E n' h' _ z => (rI_nt _ _ _ z).elim)
theorem bX12_moved_14 {fr M1 M2 b1 b2 : Nat} {Q : RS → Nat → AH → Prop} {h : AH} {l1 l2 l3 l4 l5 s0 : Int} {x6 x7 x8 x9 x10 : AV} {R : Int → AH → Prop}   (hS : Sp mX12_right true (fr - 1) 0 0 [zR 98, zI s0, zI 1] 137 h (rI R)) (hf : 1 ≤ fr := by omega) (kk : ∀ (x : Int) (h' : AH), R x h' → Wp mX12_moved (kR fr M1 M2) Q (b1, b2) 18 [zR 98, zI l1, zI l2, zI l3, zI l4, zI l5, none, none, none, none, none] [zI x] 137 h') : Wp mX12_moved (kR fr M1 M2) Q (b1, b2) 14 [zR 98, zI l1, zI l2, zI l3, zI l4, zI l5, x6, x7, x8, x9, x10] [zI s0, zR 98] 137 h := by
  refine s_fgt (fgt_c (fgt_c (fgt_c (fgt_c (fgt_c (fgt_c (fgt_n _ (fgt_n _ (fgt_n _ (fgt_n _ (fgt_n _ fgt_0))))))))))) ?_
  refine s_iconst dX12_moved_14 ?_
  exact s_callV (as := [zI s0, zI 1]) (st := []) (o := 98) dX12_moved_15 kX12_260 rfl ⟨12, 87, TX12, e98, rfl, by decide⟩ rfl rfl (Nat.le_of_ble_eq_true rfl) hS (show fr - 1 + 1 ≤ fr by omega) (Nat.zero_le _) (Nat.zero_le _) (fun v n' h' hP _ => by obtain ⟨x, e, rfl, hR⟩ := hP; cases e; exact kk x h' hR) (fun E n' h' _ z => (rI_nt _ _ _ z).elim)
theorem bX12_moved_18 {fr M1 M2 b1 b2 : Nat} {Q : RS → Nat → AH → Prop} {h : AH} {l1 l2 l3 l4 l5 s0 : Int} {x6 x7 x8 x9 x10 : AV}  (r1 : -2147483648 ≤ s0 ∧ s0 < 2147483648 := by omega) (kt : ¬ s0 = 0 → Wp mX12_moved (kR fr M1 M2) Q (b1, b2) 23 [zR 98, zI l1, zI l2, zI l3, zI l4, zI l5, none, none, none, none, none] [] 137 h) (kf : s0 = 0 → Wp mX12_moved (kR fr M1 M2) Q (b1, b2) 21 [zR 98, zI l1, zI l2, zI l3, zI l4, zI l5, none, none, none, none, none] [] 137 h) : Wp mX12_moved (kR fr M1 M2) Q (b1, b2) 18 [zR 98, zI l1, zI l2, zI l3, zI l4, zI l5, x6, x7, x8, x9, x10] [zI s0] 137 h := by
  refine s_fgt (fgt_c (fgt_c (fgt_c (fgt_c (fgt_c (fgt_c (fgt_n _ (fgt_n _ (fgt_n _ (fgt_n _ (fgt_n _ fgt_0))))))))))) ?_
  exact s_if_ne (tgt := 23) dX12_moved_18 (by decide) r1 kt kf
theorem bX12_moved_21 {fr M1 M2 b1 b2 : Nat} {Q : RS → Nat → AH → Prop} {h : AH} {x0 x1 x2 x3 x4 x5 x6 x7 x8 x9 x10 : AV}   (hq : Q (.inl (some (zI 0))) 137 h) : Wp mX12_moved (kR fr M1 M2) Q (b1, b2) 21 [x0, x1, x2, x3, x4, x5, x6, x7, x8, x9, x10] [] 137 h := by
  refine s_fgt (fgt_n _ (fgt_n _ (fgt_n _ (fgt_n _ (fgt_n _ (fgt_n _ (fgt_n _ (fgt_n _ (fgt_n _ (fgt_n _ (fgt_n _ fgt_0))))))))))) ?_
  refine s_iconst dX12_moved_21 ?_
  exact s_ireturn dX12_moved_22 ⟨.int, rfl, rfl⟩ hq (fun z => by cases z)
theorem bX12_moved_23 {fr M1 M2 b1 b2 : Nat} {Q : RS → Nat → AH → Prop} {h : AH} {l1 l2 l3 l4 l5 : Int} {x6 x7 x8 x9 x10 : AV}   (kk : Wp mX12_moved (kR fr M1 M2) Q (b1, b2) 26 [zR 98, zI l1, zI l2, zI l3, zI l4, zI l5, zI 0, none, none, none, none] [] 137 h) : Wp mX12_moved (kR fr M1 M2) Q (b1, b2) 23 [zR 98, zI l1, zI l2, zI l3, zI l4, zI l5, x6, x7, x8, x9, x10] [] 137 h := by
  refine s_fgt (fgt_c (fgt_c (fgt_c (fgt_c (fgt_c (fgt_c (fgt_n _ (fgt_n _ (fgt_n _ (fgt_n _ (fgt_n _ fgt_0))))))))))) ?_
  refine s_iconst dX12_moved_23 ?_
  refine s_istore dX12_moved_24 rfl (by decide) ?_
  exact kk
theorem bX12_moved_26 {fr M1 M2 b1 b2 : Nat} {Q : RS → Nat → AH → Prop} {h : AH} {l1 l2 l3 l4 l5 l6 : Int} {x7 x8 x9 x10 : AV}  (r1 : -2147483648 ≤ l6 ∧ l6 < 2147483648 := by omega) (kt : 961 ≤ l6 → Wp mX12_moved (kR fr M1 M2) Q (b1, b2) 71 [zR 98, zI l1, zI l2, zI l3, zI l4, zI l5, zI l6, none, none, none, none] [] 137 h) (kf : l6 < 961 → Wp mX12_moved (kR fr M1 M2) Q (b1, b2) 34 [zR 98, zI l1, zI l2, zI l3, zI l4, zI l5, zI l6, none, none, none, none] [] 137 h) : Wp mX12_moved (kR fr M1 M2) Q (b1, b2) 26 [zR 98, zI l1, zI l2, zI l3, zI l4, zI l5, zI l6, x7, x8, x9, x10] [] 137 h := by
  refine s_fgt (fgt_c (fgt_c (fgt_c (fgt_c (fgt_c (fgt_c (fgt_c (fgt_n _ (fgt_n _ (fgt_n _ (fgt_n _ fgt_0))))))))))) ?_
  refine s_iload (x := l6) dX12_moved_26 rfl ?_
  refine s_sipush dX12_moved_28 (by decide) ?_
  exact s_icmp_ge (tgt := 71) dX12_moved_31 (by decide) r1 ⟨by decide, by decide⟩ kt kf
theorem bX12_moved_34 {fr M1 M2 b1 b2 : Nat} {Q : RS → Nat → AH → Prop} {h : AH} {l1 l2 l3 l4 l5 l6 : Int} {x7 x8 x9 x10 : AV} {R : Int → AH → Prop}   (hS : Sp mX12_matches true (fr - 1) 0 0 [zR 98, zI l6, zI l1, zI l2] 137 h (rI R)) (hf : 1 ≤ fr := by omega) (kk : ∀ (x : Int) (h' : AH), R x h' → Wp mX12_moved (kR fr M1 M2) Q (b1, b2) 48 [zR 98, zI l1, zI l2, zI l3, zI l4, zI l5, zI l6, none, none, none, none] [zI x, zI l6, zR 129] 137 h') : Wp mX12_moved (kR fr M1 M2) Q (b1, b2) 34 [zR 98, zI l1, zI l2, zI l3, zI l4, zI l5, zI l6, x7, x8, x9, x10] [] 137 h := by
  refine s_fgt (fgt_c (fgt_c (fgt_c (fgt_c (fgt_c (fgt_c (fgt_c (fgt_n _ (fgt_n _ (fgt_n _ (fgt_n _ fgt_0))))))))))) ?_
  refine s_aload_n (x := 98) dX12_moved_34 rfl ?_
  refine s_getFd (c := 98) (d := 129) dX12_moved_35 lX12_111 e98 (Or.inl rfl) (by decide) (by decide) ?_
  refine s_iload (x := l6) dX12_moved_38 rfl ?_
  refine s_aload_n (x := 98) dX12_moved_40 rfl ?_
  refine s_iload (x := l6) dX12_moved_41 rfl ?_
  refine s_iload_n (x := l1) dX12_moved_43 rfl ?_
  refine s_iload_n (x := l2) dX12_moved_44 rfl ?_
  exact s_callV (as := [zI l6, zI l1, zI l2]) (st := [zI l6, zR 129]) (o := 98) dX12_moved_45 kX12_451 rfl ⟨12, 87, TX12, e98, rfl, by decide⟩ rfl rfl (Nat.le_of_ble_eq_true rfl) hS (show fr - 1 + 1 ≤ fr by omega) (Nat.zero_le _) (Nat.zero_le _) (fun v n' h' hP _ => by obtain ⟨x, e, rfl, hR⟩ := hP; cases e; exact kk x h' hR) (fun E n' h' _ z => (rI_nt _ _ _ z).elim)
theorem bX12_moved_48 {fr M1 M2 b1 b2 : Nat} {Q : RS → Nat → AH → Prop} {h : AH} {l1 l2 l3 l4 l5 l6 s2 s1 s0 : Int} {N1 : Nat} {x7 x8 x9 x10 : AV} {R : Int → AH → Prop} (c1 : cel 137 s2 (102, N1) := by first | assumption | omega) (r1 : 0 ≤ s1 ∧ s1 < N1 := by omega) (r2 : s0 = 0 ∨ s0 = 1 := by omega) (hS : Sp mX12_matches true (fr - 1) 0 0 [zR 98, zI l6, zI l3, zI l4] 137 (up h s2 s1 s0) (rI R)) (hf : 1 ≤ fr := by omega) (kk : ∀ (x : Int) (h' : AH), R x h' → Wp mX12_moved (kR fr M1 M2) Q (b1, b2) 64 [zR 98, zI l1, zI l2, zI l3, zI l4, zI l5, zI l6, none, none, none, none] [zI x, zI l6, zR 130] 137 h') : Wp mX12_moved (kR fr M1 M2) Q (b1, b2) 48 [zR 98, zI l1, zI l2, zI l3, zI l4, zI l5, zI l6, x7, x8, x9, x10] [zI s0, zI s1, zR s2] 137 h := by
  refine s_fgt (fgt_c (fgt_c (fgt_c (fgt_c (fgt_c (fgt_c (fgt_c (fgt_n _ (fgt_n _ (fgt_n _ (fgt_n _ fgt_0))))))))))) ?_
  refine s_zast (c := s2) (i := s1) dX12_moved_48 c1 r1.1 r1.2 (bool_ok r2) ?_
  refine s_aload_n (x := 98) dX12_moved_49 rfl ?_
  refine s_getFd (c := 98) (d := 130) dX12_moved_50 lX12_115 e98 (Or.inl rfl) (by decide) (by decide) ?_
  refine s_iload (x := l6) dX12_moved_53 rfl ?_
  refine s_aload_n (x := 98) dX12_moved_55 rfl ?_
  refine s_iload (x := l6) dX12_moved_56 rfl ?_
  refine s_iload_n (x := l3) dX12_moved_58 rfl ?_
  refine s_iload (x := l4) dX12_moved_59 rfl ?_
  exact s_callV (as := [zI l6, zI l3, zI l4]) (st := [zI l6, zR 130]) (o := 98) dX12_moved_61 kX12_451 rfl ⟨12, 87, TX12, e98, rfl, by decide⟩ rfl rfl (Nat.le_of_ble_eq_true rfl) hS (show fr - 1 + 1 ≤ fr by omega) (Nat.zero_le _) (Nat.zero_le _) (fun v n' h' hP _ => by obtain ⟨x, e, rfl, hR⟩ := hP; cases e; exact kk x h' hR) (fun E n' h' _ z => (rI_nt _ _ _ z).elim)
theorem bX12_moved_64 {fr M1 M2 b1 b2 : Nat} {Q : RS → Nat → AH → Prop} {h : AH} {l1 l2 l3 l4 l5 l6 s2 s1 s0 : Int} {N1 : Nat} {x7 x8 x9 x10 : AV} (c1 : cel 137 s2 (102, N1) := by first | assumption | omega) (r1 : 0 ≤ s1 ∧ s1 < N1 := by omega) (r2 : s0 = 0 ∨ s0 = 1 := by omega) (kk : Wp mX12_moved (kR fr M1 M2) Q (b1, b2) 26 [zR 98, zI l1, zI l2, zI l3, zI l4, zI l5, zI (l6 + 1), none, none, none, none] [] 137 (up h s2 s1 s0)) : Wp mX12_moved (kR fr M1 M2) Q (b1, b2) 64 [zR 98, zI l1, zI l2, zI l3, zI l4, zI l5, zI l6, x7, x8, x9, x10] [zI s0, zI s1, zR s2] 137 h := by
  refine s_fgt (fgt_c (fgt_c (fgt_c (fgt_c (fgt_c (fgt_c (fgt_c (fgt_n _ (fgt_n _ (fgt_n _ (fgt_n _ fgt_0))))))))))) ?_
  refine s_zast (c := s2) (i := s1) dX12_moved_64 c1 r1.1 r1.2 (bool_ok r2) ?_
  refine s_iinc (x := l6) dX12_moved_65 rfl rfl (by decide) ?_
  exact s_goto (tgt := 26) dX12_moved_68 (by decide) kk
theorem bX12_moved_71 {fr M1 M2 b1 b2 : Nat} {Q : RS → Nat → AH → Prop} {h : AH} {l5 : Int} {x1 x2 x3 x4 x6 x7 x8 x9 x10 : AV}   (kk : Wp mX12_moved (kR fr M1 M2) Q (b1, b2) 77 [zR 98, none, none, none, none, zI l5, zI 0, zI 0, none, none, none] [] 137 h) : Wp mX12_moved (kR fr M1 M2) Q (b1, b2) 71 [zR 98, x1, x2, x3, x4, zI l5, x6, x7, x8, x9, x10] [] 137 h := by
  refine s_fgt (fgt_c (fgt_n _ (fgt_n _ (fgt_n _ (fgt_n _ (fgt_c (fgt_n _ (fgt_n _ (fgt_n _ (fgt_n _ (fgt_n _ fgt_0))))))))))) ?_
  refine s_iconst dX12_moved_71 ?_
  refine s_istore dX12_moved_72 rfl (by decide) ?_
  refine s_iconst dX12_moved_74 ?_
  refine s_istore dX12_moved_75 rfl (by decide) ?_
  exact kk
theorem bX12_moved_77 {fr M1 M2 b1 b2 : Nat} {Q : RS → Nat → AH → Prop} {h : AH} {l5 l6 l7 : Int} {x1 x2 x3 x4 x8 x9 x10 : AV}  (r1 : -2147483648 ≤ l7 ∧ l7 < 2147483648 := by omega) (kt : 961 ≤ l7 → Wp mX12_moved (kR fr M1 M2) Q (b1, b2) 202 [zR 98, none, none, none, none, zI l5, zI l6, zI l7, none, none, none] [] 137 h) (kf : l7 < 961 → Wp mX12_moved (kR fr M1 M2) Q (b1, b2) 85 [zR 98, none, none, none, none, zI l5, zI l6, zI l7, none, none, none] [] 137 h) : Wp mX12_moved (kR fr M1 M2) Q (b1, b2) 77 [zR 98, x1, x2, x3, x4, zI l5, zI l6, zI l7, x8, x9, x10] [] 137 h := by
  refine s_fgt (fgt_c (fgt_n _ (fgt_n _ (fgt_n _ (fgt_n _ (fgt_c (fgt_c (fgt_c (fgt_n _ (fgt_n _ (fgt_n _ fgt_0))))))))))) ?_
  refine s_iload (x := l7) dX12_moved_77 rfl ?_
  refine s_sipush dX12_moved_79 (by decide) ?_
  exact s_icmp_ge (tgt := 202) dX12_moved_82 (by decide) r1 ⟨by decide, by decide⟩ kt kf
theorem bX12_moved_85 {fr M1 M2 b1 b2 : Nat} {Q : RS → Nat → AH → Prop} {h : AH} {l5 l6 l7 : Int} {x1 x2 x3 x4 x8 x9 x10 : AV}  (r1 : 0 ≤ l7 ∧ l7 < 961 := by omega) (r2 : -2147483648 ≤ h 129 l7 ∧ h 129 l7 < 2147483648 := by omega) (kt : ¬ h 129 l7 = 0 → Wp mX12_moved (kR fr M1 M2) Q (b1, b2) 98 [zR 98, none, none, none, none, zI l5, zI l6, zI l7, none, none, none] [] 137 h) (kf : h 129 l7 = 0 → Wp mX12_moved (kR fr M1 M2) Q (b1, b2) 95 [zR 98, none, none, none, none, zI l5, zI l6, zI l7, none, none, none] [] 137 h) : Wp mX12_moved (kR fr M1 M2) Q (b1, b2) 85 [zR 98, x1, x2, x3, x4, zI l5, zI l6, zI l7, x8, x9, x10] [] 137 h := by
  refine s_fgt (fgt_c (fgt_n _ (fgt_n _ (fgt_n _ (fgt_n _ (fgt_c (fgt_c (fgt_c (fgt_n _ (fgt_n _ (fgt_n _ fgt_0))))))))))) ?_
  refine s_aload_n (x := 98) dX12_moved_85 rfl ?_
  refine s_getFd (c := 98) (d := 129) dX12_moved_86 lX12_111 e98 (Or.inl rfl) (by decide) (by decide) ?_
  refine s_iload (x := l7) dX12_moved_89 rfl ?_
  refine s_zald (c := 129) (i := l7) dX12_moved_91 e129 r1.1 r1.2 ?_
  exact s_if_ne (tgt := 98) dX12_moved_92 (by decide) r2 kt kf
theorem bX12_moved_95 {fr M1 M2 b1 b2 : Nat} {Q : RS → Nat → AH → Prop} {h : AH} {l5 l6 l7 : Int} {x1 x2 x3 x4 x8 x9 x10 : AV}   (kk : Wp mX12_moved (kR fr M1 M2) Q (b1, b2) 196 [zR 98, none, none, none, none, zI l5, zI l6, zI l7, none, none, none] [] 137 h) : Wp mX12_moved (kR fr M1 M2) Q (b1, b2) 95 [zR 98, x1, x2, x3, x4, zI l5, zI l6, zI l7, x8, x9, x10] [] 137 h := by
  refine s_fgt (fgt_c (fgt_n _ (fgt_n _ (fgt_n _ (fgt_n _ (fgt_c (fgt_c (fgt_c (fgt_n _ (fgt_n _ (fgt_n _ fgt_0))))))))))) ?_
  exact s_goto (tgt := 196) dX12_moved_95 (by decide) kk
theorem bX12_moved_98 {fr M1 M2 b1 b2 : Nat} {Q : RS → Nat → AH → Prop} {h : AH} {l5 l6 l7 : Int} {x1 x2 x3 x4 x8 x9 x10 : AV}   (kk : Wp mX12_moved (kR fr M1 M2) Q (b1, b2) 101 [zR 98, none, none, none, none, zI l5, zI l6, zI l7, zI 0, none, none] [] 137 h) : Wp mX12_moved (kR fr M1 M2) Q (b1, b2) 98 [zR 98, x1, x2, x3, x4, zI l5, zI l6, zI l7, x8, x9, x10] [] 137 h := by
  refine s_fgt (fgt_c (fgt_n _ (fgt_n _ (fgt_n _ (fgt_n _ (fgt_c (fgt_c (fgt_c (fgt_n _ (fgt_n _ (fgt_n _ fgt_0))))))))))) ?_
  refine s_iconst dX12_moved_98 ?_
  refine s_istore dX12_moved_99 rfl (by decide) ?_
  exact kk
theorem bX12_moved_101 {fr M1 M2 b1 b2 : Nat} {Q : RS → Nat → AH → Prop} {h : AH} {l5 l6 l7 l8 : Int} {x1 x2 x3 x4 x9 x10 : AV}  (r1 : -2147483648 ≤ l8 ∧ l8 < 2147483648 := by omega) (kt : 961 ≤ l8 → Wp mX12_moved (kR fr M1 M2) Q (b1, b2) 196 [zR 98, none, none, none, none, zI l5, zI l6, zI l7, zI l8, none, none] [] 137 h) (kf : l8 < 961 → Wp mX12_moved (kR fr M1 M2) Q (b1, b2) 109 [zR 98, none, none, none, none, zI l5, zI l6, zI l7, zI l8, none, none] [] 137 h) : Wp mX12_moved (kR fr M1 M2) Q (b1, b2) 101 [zR 98, x1, x2, x3, x4, zI l5, zI l6, zI l7, zI l8, x9, x10] [] 137 h := by
  refine s_fgt (fgt_c (fgt_n _ (fgt_n _ (fgt_n _ (fgt_n _ (fgt_c (fgt_c (fgt_c (fgt_c (fgt_n _ (fgt_n _ fgt_0))))))))))) ?_
  refine s_iload (x := l8) dX12_moved_101 rfl ?_
  refine s_sipush dX12_moved_103 (by decide) ?_
  exact s_icmp_ge (tgt := 196) dX12_moved_106 (by decide) r1 ⟨by decide, by decide⟩ kt kf
theorem bX12_moved_109 {fr M1 M2 b1 b2 : Nat} {Q : RS → Nat → AH → Prop} {h : AH} {l5 l6 l7 l8 : Int} {x1 x2 x3 x4 x9 x10 : AV}  (r1 : 0 ≤ l8 ∧ l8 < 961 := by omega) (r2 : -2147483648 ≤ h 130 l8 ∧ h 130 l8 < 2147483648 := by omega) (kt : ¬ h 130 l8 = 0 → Wp mX12_moved (kR fr M1 M2) Q (b1, b2) 122 [zR 98, none, none, none, none, zI l5, zI l6, zI l7, zI l8, none, none] [] 137 h) (kf : h 130 l8 = 0 → Wp mX12_moved (kR fr M1 M2) Q (b1, b2) 119 [zR 98, none, none, none, none, zI l5, zI l6, zI l7, zI l8, none, none] [] 137 h) : Wp mX12_moved (kR fr M1 M2) Q (b1, b2) 109 [zR 98, x1, x2, x3, x4, zI l5, zI l6, zI l7, zI l8, x9, x10] [] 137 h := by
  refine s_fgt (fgt_c (fgt_n _ (fgt_n _ (fgt_n _ (fgt_n _ (fgt_c (fgt_c (fgt_c (fgt_c (fgt_n _ (fgt_n _ fgt_0))))))))))) ?_
  refine s_aload_n (x := 98) dX12_moved_109 rfl ?_
  refine s_getFd (c := 98) (d := 130) dX12_moved_110 lX12_115 e98 (Or.inl rfl) (by decide) (by decide) ?_
  refine s_iload (x := l8) dX12_moved_113 rfl ?_
  refine s_zald (c := 130) (i := l8) dX12_moved_115 e130 r1.1 r1.2 ?_
  exact s_if_ne (tgt := 122) dX12_moved_116 (by decide) r2 kt kf
theorem bX12_moved_119 {fr M1 M2 b1 b2 : Nat} {Q : RS → Nat → AH → Prop} {h : AH} {l5 l6 l7 l8 : Int} {x1 x2 x3 x4 x9 x10 : AV}   (kk : Wp mX12_moved (kR fr M1 M2) Q (b1, b2) 190 [zR 98, none, none, none, none, zI l5, zI l6, zI l7, zI l8, none, none] [] 137 h) : Wp mX12_moved (kR fr M1 M2) Q (b1, b2) 119 [zR 98, x1, x2, x3, x4, zI l5, zI l6, zI l7, zI l8, x9, x10] [] 137 h := by
  refine s_fgt (fgt_c (fgt_n _ (fgt_n _ (fgt_n _ (fgt_n _ (fgt_c (fgt_c (fgt_c (fgt_c (fgt_n _ (fgt_n _ fgt_0))))))))))) ?_
  exact s_goto (tgt := 190) dX12_moved_119 (by decide) kk
theorem bX12_moved_122 {fr M1 M2 b1 b2 : Nat} {Q : RS → Nat → AH → Prop} {h : AH} {l5 l6 l7 l8 : Int} {x1 x2 x3 x4 x9 x10 : AV}  (r1 : 0 ≤ l7 ∧ l7 < 2147483648 := by omega) (r2 : 0 ≤ l8 ∧ l8 < 2147483648 := by omega) (r3 : -2147483648 ≤ (l7 % 31) - (l8 % 31) ∧ (l7 % 31) - (l8 % 31) < 2147483648 := by omega) (kt : 0 ≤ (l7 % 31) - (l8 % 31) → Wp mX12_moved (kR fr M1 M2) Q (b1, b2) 161 [zR 98, none, none, none, none, zI l5, zI l6, zI l7, zI l8, zI ((l7 % 31) - (l8 % 31)), zI ((l7 / 31) - (l8 / 31))] [zI l6] 137 h) (kf : (l7 % 31) - (l8 % 31) < 0 → Wp mX12_moved (kR fr M1 M2) Q (b1, b2) 155 [zR 98, none, none, none, none, zI l5, zI l6, zI l7, zI l8, zI ((l7 % 31) - (l8 % 31)), zI ((l7 / 31) - (l8 / 31))] [zI l6] 137 h) : Wp mX12_moved (kR fr M1 M2) Q (b1, b2) 122 [zR 98, x1, x2, x3, x4, zI l5, zI l6, zI l7, zI l8, x9, x10] [] 137 h := by
  refine s_fgt (fgt_c (fgt_n _ (fgt_n _ (fgt_n _ (fgt_n _ (fgt_c (fgt_c (fgt_c (fgt_c (fgt_n _ (fgt_n _ fgt_0))))))))))) ?_
  refine s_iload (x := l7) dX12_moved_122 rfl ?_
  refine s_bipush dX12_moved_124 (by decide) ?_
  refine s_iremN dX12_moved_126 r1.1 r1.2 (by decide) (by decide) ?_
  refine s_iload (x := l8) dX12_moved_127 rfl ?_
  refine s_bipush dX12_moved_129 (by decide) ?_
  refine s_iremN dX12_moved_131 r2.1 r2.2 (by decide) (by decide) ?_
  refine s_isub dX12_moved_132 ?_
  refine s_istore dX12_moved_133 rfl (by decide) ?_
  refine s_iload (x := l7) dX12_moved_135 rfl ?_
  refine s_bipush dX12_moved_137 (by decide) ?_
  refine s_idivN dX12_moved_139 r1.1 r1.2 (by decide) (by decide) ?_
  refine s_iload (x := l8) dX12_moved_140 rfl ?_
  refine s_bipush dX12_moved_142 (by decide) ?_
  refine s_idivN dX12_moved_144 r2.1 r2.2 (by decide) (by decide) ?_
  refine s_isub dX12_moved_145 ?_
  refine s_istore dX12_moved_146 rfl (by decide) ?_
  refine s_iload (x := l6) dX12_moved_148 rfl ?_
  refine s_iload (x := (l7 % 31) - (l8 % 31)) dX12_moved_150 rfl ?_
  exact s_if_ge (tgt := 161) dX12_moved_152 (by decide) r3 kt kf
theorem bX12_moved_155 {fr M1 M2 b1 b2 : Nat} {Q : RS → Nat → AH → Prop} {h : AH} {l5 l7 l8 l9 l10 s0 : Int} {x1 x2 x3 x4 x6 : AV}   (kk : Wp mX12_moved (kR fr M1 M2) Q (b1, b2) 163 [zR 98, none, none, none, none, zI l5, none, zI l7, zI l8, zI l9, zI l10] [zI (0 - l9), zI s0] 137 h) : Wp mX12_moved (kR fr M1 M2) Q (b1, b2) 155 [zR 98, x1, x2, x3, x4, zI l5, x6, zI l7, zI l8, zI l9, zI l10] [zI s0] 137 h := by
  refine s_fgt (fgt_c (fgt_n _ (fgt_n _ (fgt_n _ (fgt_n _ (fgt_c (fgt_n _ (fgt_c (fgt_c (fgt_c (fgt_c fgt_0))))))))))) ?_
  refine s_iload (x := l9) dX12_moved_155 rfl ?_
  refine s_ineg dX12_moved_157 ?_
  exact s_goto (tgt := 163) dX12_moved_158 (by decide) kk
theorem bX12_moved_161 {fr M1 M2 b1 b2 : Nat} {Q : RS → Nat → AH → Prop} {h : AH} {l5 l7 l8 l9 l10 s0 : Int} {x1 x2 x3 x4 x6 : AV}   (kk : Wp mX12_moved (kR fr M1 M2) Q (b1, b2) 163 [zR 98, none, none, none, none, zI l5, none, zI l7, zI l8, zI l9, zI l10] [zI l9, zI s0] 137 h) : Wp mX12_moved (kR fr M1 M2) Q (b1, b2) 161 [zR 98, x1, x2, x3, x4, zI l5, x6, zI l7, zI l8, zI l9, zI l10] [zI s0] 137 h := by
  refine s_fgt (fgt_c (fgt_n _ (fgt_n _ (fgt_n _ (fgt_n _ (fgt_c (fgt_n _ (fgt_c (fgt_c (fgt_c (fgt_c fgt_0))))))))))) ?_
  refine s_iload (x := l9) dX12_moved_161 rfl ?_
  exact kk
theorem bX12_moved_163 {fr M1 M2 b1 b2 : Nat} {Q : RS → Nat → AH → Prop} {h : AH} {l5 l7 l8 l10 s1 s0 : Int} {x1 x2 x3 x4 x6 x9 : AV}  (r1 : -2147483648 ≤ l10 ∧ l10 < 2147483648 := by omega) (kt : 0 ≤ l10 → Wp mX12_moved (kR fr M1 M2) Q (b1, b2) 174 [zR 98, none, none, none, none, zI l5, none, zI l7, zI l8, none, zI l10] [zI s0, zI s1] 137 h) (kf : l10 < 0 → Wp mX12_moved (kR fr M1 M2) Q (b1, b2) 168 [zR 98, none, none, none, none, zI l5, none, zI l7, zI l8, none, zI l10] [zI s0, zI s1] 137 h) : Wp mX12_moved (kR fr M1 M2) Q (b1, b2) 163 [zR 98, x1, x2, x3, x4, zI l5, x6, zI l7, zI l8, x9, zI l10] [zI s0, zI s1] 137 h := by
  refine s_fgt (fgt_c (fgt_n _ (fgt_n _ (fgt_n _ (fgt_n _ (fgt_c (fgt_n _ (fgt_c (fgt_c (fgt_n _ (fgt_c fgt_0))))))))))) ?_
  refine s_iload (x := l10) dX12_moved_163 rfl ?_
  exact s_if_ge (tgt := 174) dX12_moved_165 (by decide) r1 kt kf
theorem bX12_moved_168 {fr M1 M2 b1 b2 : Nat} {Q : RS → Nat → AH → Prop} {h : AH} {l5 l7 l8 l10 s1 s0 : Int} {x1 x2 x3 x4 x6 x9 : AV}   (kk : Wp mX12_moved (kR fr M1 M2) Q (b1, b2) 176 [zR 98, none, none, none, none, zI l5, none, zI l7, zI l8, none, zI l10] [zI (0 - l10), zI s0, zI s1] 137 h) : Wp mX12_moved (kR fr M1 M2) Q (b1, b2) 168 [zR 98, x1, x2, x3, x4, zI l5, x6, zI l7, zI l8, x9, zI l10] [zI s0, zI s1] 137 h := by
  refine s_fgt (fgt_c (fgt_n _ (fgt_n _ (fgt_n _ (fgt_n _ (fgt_c (fgt_n _ (fgt_c (fgt_c (fgt_n _ (fgt_c fgt_0))))))))))) ?_
  refine s_iload (x := l10) dX12_moved_168 rfl ?_
  refine s_ineg dX12_moved_170 ?_
  exact s_goto (tgt := 176) dX12_moved_171 (by decide) kk
theorem bX12_moved_174 {fr M1 M2 b1 b2 : Nat} {Q : RS → Nat → AH → Prop} {h : AH} {l5 l7 l8 l10 s1 s0 : Int} {x1 x2 x3 x4 x6 x9 : AV}   (kk : Wp mX12_moved (kR fr M1 M2) Q (b1, b2) 176 [zR 98, none, none, none, none, zI l5, none, zI l7, zI l8, none, zI l10] [zI l10, zI s0, zI s1] 137 h) : Wp mX12_moved (kR fr M1 M2) Q (b1, b2) 174 [zR 98, x1, x2, x3, x4, zI l5, x6, zI l7, zI l8, x9, zI l10] [zI s0, zI s1] 137 h := by
  refine s_fgt (fgt_c (fgt_n _ (fgt_n _ (fgt_n _ (fgt_n _ (fgt_c (fgt_n _ (fgt_c (fgt_c (fgt_n _ (fgt_c fgt_0))))))))))) ?_
  refine s_iload (x := l10) dX12_moved_174 rfl ?_
  exact kk
theorem bX12_moved_176 {fr M1 M2 b1 b2 : Nat} {Q : RS → Nat → AH → Prop} {h : AH} {l5 l7 l8 s2 s1 s0 : Int} {x1 x2 x3 x4 x6 x9 x10 : AV}  (r1 : -2147483648 ≤ s1 + s0 ∧ s1 + s0 < 2147483648 := by omega) (r2 : -2147483648 ≤ l5 ∧ l5 < 2147483648 := by omega) (kt : l5 < s1 + s0 → Wp mX12_moved (kR fr M1 M2) Q (b1, b2) 186 [zR 98, none, none, none, none, zI l5, none, zI l7, zI l8, none, none] [zI s2] 137 h) (kf : s1 + s0 ≤ l5 → Wp mX12_moved (kR fr M1 M2) Q (b1, b2) 182 [zR 98, none, none, none, none, zI l5, none, zI l7, zI l8, none, none] [zI s2] 137 h) : Wp mX12_moved (kR fr M1 M2) Q (b1, b2) 176 [zR 98, x1, x2, x3, x4, zI l5, x6, zI l7, zI l8, x9, x10] [zI s0, zI s1, zI s2] 137 h := by
  refine s_fgt (fgt_c (fgt_n _ (fgt_n _ (fgt_n _ (fgt_n _ (fgt_c (fgt_n _ (fgt_c (fgt_c (fgt_n _ (fgt_n _ fgt_0))))))))))) ?_
  refine s_iadd dX12_moved_176 ?_
  refine s_iload (x := l5) dX12_moved_177 rfl ?_
  exact s_icmp_gt (tgt := 186) dX12_moved_179 (by decide) r1 r2 kt kf
theorem bX12_moved_182 {fr M1 M2 b1 b2 : Nat} {Q : RS → Nat → AH → Prop} {h : AH} {l5 l7 l8 s0 : Int} {x1 x2 x3 x4 x6 x9 x10 : AV}   (kk : Wp mX12_moved (kR fr M1 M2) Q (b1, b2) 187 [zR 98, none, none, none, none, zI l5, none, zI l7, zI l8, none, none] [zI 1, zI s0] 137 h) : Wp mX12_moved (kR fr M1 M2) Q (b1, b2) 182 [zR 98, x1, x2, x3, x4, zI l5, x6, zI l7, zI l8, x9, x10] [zI s0] 137 h := by
  refine s_fgt (fgt_c (fgt_n _ (fgt_n _ (fgt_n _ (fgt_n _ (fgt_c (fgt_n _ (fgt_c (fgt_c (fgt_n _ (fgt_n _ fgt_0))))))))))) ?_
  refine s_iconst dX12_moved_182 ?_
  exact s_goto (tgt := 187) dX12_moved_183 (by decide) kk
theorem bX12_moved_186 {fr M1 M2 b1 b2 : Nat} {Q : RS → Nat → AH → Prop} {h : AH} {l5 l7 l8 s0 : Int} {x1 x2 x3 x4 x6 x9 x10 : AV}   (kk : Wp mX12_moved (kR fr M1 M2) Q (b1, b2) 187 [zR 98, none, none, none, none, zI l5, none, zI l7, zI l8, none, none] [zI 0, zI s0] 137 h) : Wp mX12_moved (kR fr M1 M2) Q (b1, b2) 186 [zR 98, x1, x2, x3, x4, zI l5, x6, zI l7, zI l8, x9, x10] [zI s0] 137 h := by
  refine s_fgt (fgt_c (fgt_n _ (fgt_n _ (fgt_n _ (fgt_n _ (fgt_c (fgt_n _ (fgt_c (fgt_c (fgt_n _ (fgt_n _ fgt_0))))))))))) ?_
  refine s_iconst dX12_moved_186 ?_
  exact kk
theorem bX12_moved_187 {fr M1 M2 b1 b2 : Nat} {Q : RS → Nat → AH → Prop} {h : AH} {l5 l7 l8 s1 s0 : Int} {x1 x2 x3 x4 x6 x9 x10 : AV}   (kk : Wp mX12_moved (kR fr M1 M2) Q (b1, b2) 190 [zR 98, none, none, none, none, zI l5, zI (s1 + s0), zI l7, zI l8, none, none] [] 137 h) : Wp mX12_moved (kR fr M1 M2) Q (b1, b2) 187 [zR 98, x1, x2, x3, x4, zI l5, x6, zI l7, zI l8, x9, x10] [zI s0, zI s1] 137 h := by
  refine s_fgt (fgt_c (fgt_n _ (fgt_n _ (fgt_n _ (fgt_n _ (fgt_c (fgt_n _ (fgt_c (fgt_c (fgt_n _ (fgt_n _ fgt_0))))))))))) ?_
  refine s_iadd dX12_moved_187 ?_
  refine s_istore dX12_moved_188 rfl (by decide) ?_
  exact kk
theorem bX12_moved_190 {fr M1 M2 b1 b2 : Nat} {Q : RS → Nat → AH → Prop} {h : AH} {l5 l6 l7 l8 : Int} {x1 x2 x3 x4 x9 x10 : AV}   (kk : Wp mX12_moved (kR fr M1 M2) Q (b1, b2) 101 [zR 98, none, none, none, none, zI l5, zI l6, zI l7, zI (l8 + 1), none, none] [] 137 h) : Wp mX12_moved (kR fr M1 M2) Q (b1, b2) 190 [zR 98, x1, x2, x3, x4, zI l5, zI l6, zI l7, zI l8, x9, x10] [] 137 h := by
  refine s_fgt (fgt_c (fgt_n _ (fgt_n _ (fgt_n _ (fgt_n _ (fgt_c (fgt_c (fgt_c (fgt_c (fgt_n _ (fgt_n _ fgt_0))))))))))) ?_
  refine s_iinc (x := l8) dX12_moved_190 rfl rfl (by decide) ?_
  exact s_goto (tgt := 101) dX12_moved_193 (by decide) kk
theorem bX12_moved_196 {fr M1 M2 b1 b2 : Nat} {Q : RS → Nat → AH → Prop} {h : AH} {l5 l6 l7 : Int} {x1 x2 x3 x4 x8 x9 x10 : AV}   (kk : Wp mX12_moved (kR fr M1 M2) Q (b1, b2) 77 [zR 98, none, none, none, none, zI l5, zI l6, zI (l7 + 1), none, none, none] [] 137 h) : Wp mX12_moved (kR fr M1 M2) Q (b1, b2) 196 [zR 98, x1, x2, x3, x4, zI l5, zI l6, zI l7, x8, x9, x10] [] 137 h := by
  refine s_fgt (fgt_c (fgt_n _ (fgt_n _ (fgt_n _ (fgt_n _ (fgt_c (fgt_c (fgt_c (fgt_n _ (fgt_n _ (fgt_n _ fgt_0))))))))))) ?_
  refine s_iinc (x := l7) dX12_moved_196 rfl rfl (by decide) ?_
  exact s_goto (tgt := 77) dX12_moved_199 (by decide) kk
theorem bX12_moved_202 {fr M1 M2 b1 b2 : Nat} {Q : RS → Nat → AH → Prop} {h : AH} {l6 : Int} {x0 x1 x2 x3 x4 x5 x7 x8 x9 x10 : AV}   (hq : Q (.inl (some (zI l6))) 137 h) : Wp mX12_moved (kR fr M1 M2) Q (b1, b2) 202 [x0, x1, x2, x3, x4, x5, zI l6, x7, x8, x9, x10] [] 137 h := by
  refine s_fgt (fgt_n _ (fgt_n _ (fgt_n _ (fgt_n _ (fgt_n _ (fgt_n _ (fgt_c (fgt_n _ (fgt_n _ (fgt_n _ (fgt_n _ fgt_0))))))))))) ?_
  refine s_iload (x := l6) dX12_moved_202 rfl ?_
  exact s_ireturn dX12_moved_204 ⟨.int, rfl, rfl⟩ hq (fun z => by cases z)
theorem dX12_falls_0 : decode mX12_falls.cd 0 = .ok (.iconst 0, 1) := by decide +kernel
theorem dX12_falls_1 : decode mX12_falls.cd 1 = .ok (.istore_n 2, 1) := by decide +kernel
theorem dX12_falls_2 : decode mX12_falls.cd 2 = .ok (.iload_n 2, 1) := by decide +kernel
theorem dX12_falls_3 : decode mX12_falls.cd 3 = .ok (.bipush 16, 2) := by decide +kernel
theorem dX12_falls_5 : decode mX12_falls.cd 5 = .ok (.if_icmp .ge 16, 3) := by decide +kernel
theorem dX12_falls_8 : decode mX12_falls.cd 8 = .ok (.aload_n 0, 1) := by decide +kernel
theorem dX12_falls_9 : decode mX12_falls.cd 9 = .ok (.getfield 118, 3) := by decide +kernel
theorem dX12_falls_12 : decode mX12_falls.cd 12 = .ok (.iload_n 2, 1) := by decide +kernel
theorem dX12_falls_13 : decode mX12_falls.cd 13 = .ok (.iconst 0, 1) := by decide +kernel
theorem dX12_falls_14 : decode mX12_falls.cd 14 = .ok (.iastore, 1) := by decide +kernel
theorem dX12_falls_15 : decode mX12_falls.cd 15 = .ok (.iinc 2 1, 3) := by decide +kernel
theorem dX12_falls_18 : decode mX12_falls.cd 18 = .ok (.goto (-16), 3) := by decide +kernel
theorem dX12_falls_21 : decode mX12_falls.cd 21 = .ok (.iconst 0, 1) := by decide +kernel
theorem dX12_falls_22 : decode mX12_falls.cd 22 = .ok (.istore_n 2, 1) := by decide +kernel
theorem dX12_falls_23 : decode mX12_falls.cd 23 = .ok (.iload_n 2, 1) := by decide +kernel
theorem dX12_falls_24 : decode mX12_falls.cd 24 = .ok (.bipush 16, 2) := by decide +kernel
theorem dX12_falls_26 : decode mX12_falls.cd 26 = .ok (.if_icmp .ge 89, 3) := by decide +kernel
theorem dX12_falls_29 : decode mX12_falls.cd 29 = .ok (.aload_n 0, 1) := by decide +kernel
theorem dX12_falls_30 : decode mX12_falls.cd 30 = .ok (.bipush 60, 2) := by decide +kernel
theorem dX12_falls_32 : decode mX12_falls.cd 32 = .ok (.iconst 0, 1) := by decide +kernel
theorem dX12_falls_33 : decode mX12_falls.cd 33 = .ok (.bipush 12, 2) := by decide +kernel
theorem dX12_falls_35 : decode mX12_falls.cd 35 = .ok (.invokevirtual 328, 3) := by decide +kernel
theorem dX12_falls_38 : decode mX12_falls.cd 38 = .ok (.aload_n 0, 1) := by decide +kernel
theorem dX12_falls_39 : decode mX12_falls.cd 39 = .ok (.iload_n 1, 1) := by decide +kernel
theorem dX12_falls_40 : decode mX12_falls.cd 40 = .ok (.iconst 0, 1) := by decide +kernel
theorem dX12_falls_41 : decode mX12_falls.cd 41 = .ok (.invokevirtual 331, 3) := by decide +kernel
theorem dX12_falls_44 : decode mX12_falls.cd 44 = .ok (.aload_n 0, 1) := by decide +kernel
theorem dX12_falls_45 : decode mX12_falls.cd 45 = .ok (.iload_n 1, 1) := by decide +kernel
theorem dX12_falls_46 : decode mX12_falls.cd 46 = .ok (.iload_n 2, 1) := by decide +kernel
theorem dX12_falls_47 : decode mX12_falls.cd 47 = .ok (.iconst 2, 1) := by decide +kernel
theorem dX12_falls_48 : decode mX12_falls.cd 48 = .ok (.iadd, 1) := by decide +kernel
theorem dX12_falls_49 : decode mX12_falls.cd 49 = .ok (.invokevirtual 331, 3) := by decide +kernel
theorem dX12_falls_52 : decode mX12_falls.cd 52 = .ok (.iconst 0, 1) := by decide +kernel
theorem dX12_falls_53 : decode mX12_falls.cd 53 = .ok (.istore_n 3, 1) := by decide +kernel
theorem dX12_falls_54 : decode mX12_falls.cd 54 = .ok (.iload_n 3, 1) := by decide +kernel
theorem dX12_falls_55 : decode mX12_falls.cd 55 = .ok (.bipush 16, 2) := by decide +kernel
theorem dX12_falls_57 : decode mX12_falls.cd 57 = .ok (.if_icmp .ge 52, 3) := by decide +kernel
theorem dX12_falls_60 : decode mX12_falls.cd 60 = .ok (.iload_n 3, 1) := by decide +kernel
theorem dX12_falls_61 : decode mX12_falls.cd 61 = .ok (.iload_n 2, 1) := by decide +kernel
theorem dX12_falls_62 : decode mX12_falls.cd 62 = .ok (.if_icmp .eq 41, 3) := by decide +kernel
theorem dX12_falls_65 : decode mX12_falls.cd 65 = .ok (.aload_n 0, 1) := by decide +kernel
theorem dX12_falls_66 : decode mX12_falls.cd 66 = .ok (.iload_n 3, 1) := by decide +kernel
theorem dX12_falls_67 : decode mX12_falls.cd 67 = .ok (.iconst 2, 1) := by decide +kernel
theorem dX12_falls_68 : decode mX12_falls.cd 68 = .ok (.iadd, 1) := by decide +kernel
theorem dX12_falls_69 : decode mX12_falls.cd 69 = .ok (.invokevirtual 341, 3) := by decide +kernel
theorem dX12_falls_72 : decode mX12_falls.cd 72 = .ok (.iload_n 1, 1) := by decide +kernel
theorem dX12_falls_73 : decode mX12_falls.cd 73 = .ok (.if_icmp .eq 6, 3) := by decide +kernel
theorem dX12_falls_76 : decode mX12_falls.cd 76 = .ok (.goto 27, 3) := by decide +kernel
theorem dX12_falls_79 : decode mX12_falls.cd 79 = .ok (.aload_n 0, 1) := by decide +kernel
theorem dX12_falls_80 : decode mX12_falls.cd 80 = .ok (.getfield 118, 3) := by decide +kernel
theorem dX12_falls_83 : decode mX12_falls.cd 83 = .ok (.iload_n 2, 1) := by decide +kernel
theorem dX12_falls_84 : decode mX12_falls.cd 84 = .ok (.dup2, 1) := by decide +kernel
theorem dX12_falls_85 : decode mX12_falls.cd 85 = .ok (.iaload, 1) := by decide +kernel
theorem dX12_falls_86 : decode mX12_falls.cd 86 = .ok (.iconst 1, 1) := by decide +kernel
theorem dX12_falls_87 : decode mX12_falls.cd 87 = .ok (.iload_n 3, 1) := by decide +kernel
theorem dX12_falls_88 : decode mX12_falls.cd 88 = .ok (.ishl, 1) := by decide +kernel
theorem dX12_falls_89 : decode mX12_falls.cd 89 = .ok (.ior, 1) := by decide +kernel
theorem dX12_falls_90 : decode mX12_falls.cd 90 = .ok (.iastore, 1) := by decide +kernel
theorem dX12_falls_91 : decode mX12_falls.cd 91 = .ok (.aload_n 0, 1) := by decide +kernel
theorem dX12_falls_92 : decode mX12_falls.cd 92 = .ok (.getfield 118, 3) := by decide +kernel
theorem dX12_falls_95 : decode mX12_falls.cd 95 = .ok (.iload_n 3, 1) := by decide +kernel
theorem dX12_falls_96 : decode mX12_falls.cd 96 = .ok (.dup2, 1) := by decide +kernel
theorem dX12_falls_97 : decode mX12_falls.cd 97 = .ok (.iaload, 1) := by decide +kernel
theorem dX12_falls_98 : decode mX12_falls.cd 98 = .ok (.iconst 1, 1) := by decide +kernel
theorem dX12_falls_99 : decode mX12_falls.cd 99 = .ok (.iload_n 2, 1) := by decide +kernel
theorem dX12_falls_100 : decode mX12_falls.cd 100 = .ok (.ishl, 1) := by decide +kernel
theorem dX12_falls_101 : decode mX12_falls.cd 101 = .ok (.ior, 1) := by decide +kernel
theorem dX12_falls_102 : decode mX12_falls.cd 102 = .ok (.iastore, 1) := by decide +kernel
theorem dX12_falls_103 : decode mX12_falls.cd 103 = .ok (.iinc 3 1, 3) := by decide +kernel
theorem dX12_falls_106 : decode mX12_falls.cd 106 = .ok (.goto (-52), 3) := by decide +kernel
theorem dX12_falls_109 : decode mX12_falls.cd 109 = .ok (.iinc 2 1, 3) := by decide +kernel
theorem dX12_falls_112 : decode mX12_falls.cd 112 = .ok (.goto (-89), 3) := by decide +kernel
theorem dX12_falls_115 : decode mX12_falls.cd 115 = .ok (.return_, 1) := by decide +kernel
theorem bX12_falls_0 {fr M1 M2 b1 b2 : Nat} {Q : RS → Nat → AH → Prop} {h : AH} {l1 : Int} {x2 x3 : AV}   (kk : Wp mX12_falls (kR fr M1 M2) Q (b1, b2) 2 [zR 98, zI l1, zI 0, none] [] 137 h) : Wp mX12_falls (kR fr M1 M2) Q (b1, b2) 0 [zR 98, zI l1, x2, x3] [] 137 h := by
  refine s_fgt (fgt_c (fgt_c (fgt_n _ (fgt_n _ fgt_0)))) ?_
  refine s_iconst dX12_falls_0 ?_
  refine s_istore_n dX12_falls_1 rfl (by decide) ?_
  exact kk
theorem bX12_falls_2 {fr M1 M2 b1 b2 : Nat} {Q : RS → Nat → AH → Prop} {h : AH} {l1 l2 : Int} {x3 : AV}  (r1 : -2147483648 ≤ l2 ∧ l2 < 2147483648 := by omega) (kt : 16 ≤ l2 → Wp mX12_falls (kR fr M1 M2) Q (b1, b2) 21 [zR 98, zI l1, zI l2, none] [] 137 h) (kf : l2 < 16 → Wp mX12_falls (kR fr M1 M2) Q (b1, b2) 8 [zR 98, zI l1, zI l2, none] [] 137 h) : Wp mX12_falls (kR fr M1 M2) Q (b1, b2) 2 [zR 98, zI l1, zI l2, x3] [] 137 h := by
  refine s_fgt (fgt_c (fgt_c (fgt_c (fgt_n _ fgt_0)))) ?_
  refine s_iload_n (x := l2) dX12_falls_2 rfl ?_
  refine s_bipush dX12_falls_3 (by decide) ?_
  exact s_icmp_ge (tgt := 21) dX12_falls_5 (by decide) r1 ⟨by decide, by decide⟩ kt kf
theorem bX12_falls_8 {fr M1 M2 b1 b2 : Nat} {Q : RS → Nat → AH → Prop} {h : AH} {l1 l2 : Int} {x3 : AV}  (r1 : 0 ≤ l2 ∧ l2 < 16 := by omega) (kk : Wp mX12_falls (kR fr M1 M2) Q (b1, b2) 2 [zR 98, zI l1, zI (l2 + 1), none] [] 137 (up h 131 l2 0)) : Wp mX12_falls (kR fr M1 M2) Q (b1, b2) 8 [zR 98, zI l1, zI l2, x3] [] 137 h := by
  refine s_fgt (fgt_c (fgt_c (fgt_c (fgt_n _ fgt_0)))) ?_
  refine s_aload_n (x := 98) dX12_falls_8 rfl ?_
  refine s_getFd (c := 98) (d := 131) dX12_falls_9 lX12_118 e98 (Or.inl rfl) (by decide) (by decide) ?_
  refine s_iload_n (x := l2) dX12_falls_12 rfl ?_
  refine s_iconst dX12_falls_13 ?_
  refine s_iast (c := 131) (i := l2) dX12_falls_14 e131 r1.1 r1.2 ?_
  refine s_iinc (x := l2) dX12_falls_15 rfl rfl (by decide) ?_
  exact s_goto (tgt := 2) dX12_falls_18 (by decide) kk
theorem bX12_falls_21 {fr M1 M2 b1 b2 : Nat} {Q : RS → Nat → AH → Prop} {h : AH} {l1 : Int} {x2 x3 : AV}   (kk : Wp mX12_falls (kR fr M1 M2) Q (b1, b2) 23 [zR 98, zI l1, zI 0, none] [] 137 h) : Wp mX12_falls (kR fr M1 M2) Q (b1, b2) 21 [zR 98, zI l1, x2, x3] [] 137 h := by
  refine s_fgt (fgt_c (fgt_c (fgt_n _ (fgt_n _ fgt_0)))) ?_
  refine s_iconst dX12_falls_21 ?_
  refine s_istore_n dX12_falls_22 rfl (by decide) ?_
  exact kk
theorem bX12_falls_23 {fr M1 M2 b1 b2 : Nat} {Q : RS → Nat → AH → Prop} {h : AH} {l1 l2 : Int} {x3 : AV}  (r1 : -2147483648 ≤ l2 ∧ l2 < 2147483648 := by omega) (kt : 16 ≤ l2 → Wp mX12_falls (kR fr M1 M2) Q (b1, b2) 115 [zR 98, zI l1, zI l2, none] [] 137 h) (kf : l2 < 16 → Wp mX12_falls (kR fr M1 M2) Q (b1, b2) 29 [zR 98, zI l1, zI l2, none] [] 137 h) : Wp mX12_falls (kR fr M1 M2) Q (b1, b2) 23 [zR 98, zI l1, zI l2, x3] [] 137 h := by
  refine s_fgt (fgt_c (fgt_c (fgt_c (fgt_n _ fgt_0)))) ?_
  refine s_iload_n (x := l2) dX12_falls_23 rfl ?_
  refine s_bipush dX12_falls_24 (by decide) ?_
  exact s_icmp_ge (tgt := 115) dX12_falls_26 (by decide) r1 ⟨by decide, by decide⟩ kt kf
theorem bX12_falls_29 {fr M1 M2 b1 b2 : Nat} {Q : RS → Nat → AH → Prop} {h : AH} {l1 l2 : Int} {x3 : AV} {R : AH → Prop}   (hS : Sp mX12_opens true (fr - 1) 0 0 [zR 98, zI 60, zI 0, zI 12] 137 h (rV R)) (hf : 1 ≤ fr := by omega) (kk : ∀ h' : AH, R h' → Wp mX12_falls (kR fr M1 M2) Q (b1, b2) 38 [zR 98, zI l1, zI l2, none] [] 137 h') : Wp mX12_falls (kR fr M1 M2) Q (b1, b2) 29 [zR 98, zI l1, zI l2, x3] [] 137 h := by
  refine s_fgt (fgt_c (fgt_c (fgt_c (fgt_n _ fgt_0)))) ?_
  refine s_aload_n (x := 98) dX12_falls_29 rfl ?_
  refine s_bipush dX12_falls_30 (by decide) ?_
  refine s_iconst dX12_falls_32 ?_
  refine s_bipush dX12_falls_33 (by decide) ?_
  exact s_callV (as := [zI 60, zI 0, zI 12]) (st := []) (o := 98) dX12_falls_35 kX12_328 rfl ⟨12, 87, TX12, e98, rfl, by decide⟩ rfl rfl (Nat.le_of_ble_eq_true rfl) hS (show fr - 1 + 1 ≤ fr by omega) (Nat.zero_le _) (Nat.zero_le _) (fun v n' h' hP _ => by obtain ⟨e, rfl, hR⟩ := hP; cases e; exact kk h' hR) (fun E n' h' _ z => (rV_nt _ _ _ z).elim)
theorem bX12_falls_38 {fr M1 M2 b1 b2 : Nat} {Q : RS → Nat → AH → Prop} {h : AH} {l1 l2 : Int} {x3 : AV} {R : AH → Prop}   (hS : Sp mX12_says true (fr - 1) 0 0 [zR 98, zI l1, zI 0] 137 h (rV R)) (hf : 1 ≤ fr := by omega) (kk : ∀ h' : AH, R h' → Wp mX12_falls (kR fr M1 M2) Q (b1, b2) 44 [zR 98, zI l1, zI l2, none] [] 137 h') : Wp mX12_falls (kR fr M1 M2) Q (b1, b2) 38 [zR 98, zI l1, zI l2, x3] [] 137 h := by
  refine s_fgt (fgt_c (fgt_c (fgt_c (fgt_n _ fgt_0)))) ?_
  refine s_aload_n (x := 98) dX12_falls_38 rfl ?_
  refine s_iload_n (x := l1) dX12_falls_39 rfl ?_
  refine s_iconst dX12_falls_40 ?_
  exact s_callV (as := [zI l1, zI 0]) (st := []) (o := 98) dX12_falls_41 kX12_331 rfl ⟨12, 87, TX12, e98, rfl, by decide⟩ rfl rfl (Nat.le_of_ble_eq_true rfl) hS (show fr - 1 + 1 ≤ fr by omega) (Nat.zero_le _) (Nat.zero_le _) (fun v n' h' hP _ => by obtain ⟨e, rfl, hR⟩ := hP; cases e; exact kk h' hR) (fun E n' h' _ z => (rV_nt _ _ _ z).elim)
theorem bX12_falls_44 {fr M1 M2 b1 b2 : Nat} {Q : RS → Nat → AH → Prop} {h : AH} {l1 l2 : Int} {x3 : AV} {R : AH → Prop}   (hS : Sp mX12_says true (fr - 1) 0 0 [zR 98, zI l1, zI (l2 + 2)] 137 h (rV R)) (hf : 1 ≤ fr := by omega) (kk : ∀ h' : AH, R h' → Wp mX12_falls (kR fr M1 M2) Q (b1, b2) 52 [zR 98, zI l1, zI l2, none] [] 137 h') : Wp mX12_falls (kR fr M1 M2) Q (b1, b2) 44 [zR 98, zI l1, zI l2, x3] [] 137 h := by
  refine s_fgt (fgt_c (fgt_c (fgt_c (fgt_n _ fgt_0)))) ?_
  refine s_aload_n (x := 98) dX12_falls_44 rfl ?_
  refine s_iload_n (x := l1) dX12_falls_45 rfl ?_
  refine s_iload_n (x := l2) dX12_falls_46 rfl ?_
  refine s_iconst dX12_falls_47 ?_
  refine s_iadd dX12_falls_48 ?_
  exact s_callV (as := [zI l1, zI (l2 + 2)]) (st := []) (o := 98) dX12_falls_49 kX12_331 rfl ⟨12, 87, TX12, e98, rfl, by decide⟩ rfl rfl (Nat.le_of_ble_eq_true rfl) hS (show fr - 1 + 1 ≤ fr by omega) (Nat.zero_le _) (Nat.zero_le _) (fun v n' h' hP _ => by obtain ⟨e, rfl, hR⟩ := hP; cases e; exact kk h' hR) (fun E n' h' _ z => (rV_nt _ _ _ z).elim)
theorem bX12_falls_52 {fr M1 M2 b1 b2 : Nat} {Q : RS → Nat → AH → Prop} {h : AH} {l1 l2 : Int} {x3 : AV}   (kk : Wp mX12_falls (kR fr M1 M2) Q (b1, b2) 54 [zR 98, zI l1, zI l2, zI 0] [] 137 h) : Wp mX12_falls (kR fr M1 M2) Q (b1, b2) 52 [zR 98, zI l1, zI l2, x3] [] 137 h := by
  refine s_fgt (fgt_c (fgt_c (fgt_c (fgt_n _ fgt_0)))) ?_
  refine s_iconst dX12_falls_52 ?_
  refine s_istore_n dX12_falls_53 rfl (by decide) ?_
  exact kk
theorem bX12_falls_54 {fr M1 M2 b1 b2 : Nat} {Q : RS → Nat → AH → Prop} {h : AH} {l1 l2 l3 : Int}  (r1 : -2147483648 ≤ l3 ∧ l3 < 2147483648 := by omega) (kt : 16 ≤ l3 → Wp mX12_falls (kR fr M1 M2) Q (b1, b2) 109 [zR 98, zI l1, zI l2, zI l3] [] 137 h) (kf : l3 < 16 → Wp mX12_falls (kR fr M1 M2) Q (b1, b2) 60 [zR 98, zI l1, zI l2, zI l3] [] 137 h) : Wp mX12_falls (kR fr M1 M2) Q (b1, b2) 54 [zR 98, zI l1, zI l2, zI l3] [] 137 h := by
  refine s_iload_n (x := l3) dX12_falls_54 rfl ?_
  refine s_bipush dX12_falls_55 (by decide) ?_
  exact s_icmp_ge (tgt := 109) dX12_falls_57 (by decide) r1 ⟨by decide, by decide⟩ kt kf
theorem bX12_falls_60 {fr M1 M2 b1 b2 : Nat} {Q : RS → Nat → AH → Prop} {h : AH} {l1 l2 l3 : Int}  (r1 : -2147483648 ≤ l3 ∧ l3 < 2147483648 := by omega) (r2 : -2147483648 ≤ l2 ∧ l2 < 2147483648 := by omega) (kt : l3 = l2 → Wp mX12_falls (kR fr M1 M2) Q (b1, b2) 103 [zR 98, zI l1, zI l2, zI l3] [] 137 h) (kf : ¬ l3 = l2 → Wp mX12_falls (kR fr M1 M2) Q (b1, b2) 65 [zR 98, zI l1, zI l2, zI l3] [] 137 h) : Wp mX12_falls (kR fr M1 M2) Q (b1, b2) 60 [zR 98, zI l1, zI l2, zI l3] [] 137 h := by
  refine s_iload_n (x := l3) dX12_falls_60 rfl ?_
  refine s_iload_n (x := l2) dX12_falls_61 rfl ?_
  exact s_icmp_eq (tgt := 103) dX12_falls_62 (by decide) r1 r2 kt kf
theorem bX12_falls_65 {fr M1 M2 b1 b2 : Nat} {Q : RS → Nat → AH → Prop} {h : AH} {l1 l2 l3 : Int} {R : Int → AH → Prop}   (hS : Sp mX12_hears true (fr - 1) 0 0 [zR 98, zI (l3 + 2)] 137 h (rI R)) (hf : 1 ≤ fr := by omega) (kk : ∀ (x : Int) (h' : AH), R x h' → Wp mX12_falls (kR fr M1 M2) Q (b1, b2) 72 [zR 98, zI l1, zI l2, zI l3] [zI x] 137 h') : Wp mX12_falls (kR fr M1 M2) Q (b1, b2) 65 [zR 98, zI l1, zI l2, zI l3] [] 137 h := by
  refine s_aload_n (x := 98) dX12_falls_65 rfl ?_
  refine s_iload_n (x := l3) dX12_falls_66 rfl ?_
  refine s_iconst dX12_falls_67 ?_
  refine s_iadd dX12_falls_68 ?_
  exact s_callV (as := [zI (l3 + 2)]) (st := []) (o := 98) dX12_falls_69 kX12_341 rfl ⟨12, 87, TX12, e98, rfl, by decide⟩ rfl rfl (Nat.le_of_ble_eq_true rfl) hS (show fr - 1 + 1 ≤ fr by omega) (Nat.zero_le _) (Nat.zero_le _) (fun v n' h' hP _ => by obtain ⟨x, e, rfl, hR⟩ := hP; cases e; exact kk x h' hR) (fun E n' h' _ z => (rI_nt _ _ _ z).elim)
theorem bX12_falls_72 {fr M1 M2 b1 b2 : Nat} {Q : RS → Nat → AH → Prop} {h : AH} {l1 l2 l3 s0 : Int}  (r1 : -2147483648 ≤ s0 ∧ s0 < 2147483648 := by omega) (r2 : -2147483648 ≤ l1 ∧ l1 < 2147483648 := by omega) (kt : s0 = l1 → Wp mX12_falls (kR fr M1 M2) Q (b1, b2) 79 [zR 98, zI l1, zI l2, zI l3] [] 137 h) (kf : ¬ s0 = l1 → Wp mX12_falls (kR fr M1 M2) Q (b1, b2) 76 [zR 98, zI l1, zI l2, zI l3] [] 137 h) : Wp mX12_falls (kR fr M1 M2) Q (b1, b2) 72 [zR 98, zI l1, zI l2, zI l3] [zI s0] 137 h := by
  refine s_iload_n (x := l1) dX12_falls_72 rfl ?_
  exact s_icmp_eq (tgt := 79) dX12_falls_73 (by decide) r1 r2 kt kf
theorem bX12_falls_76 {fr M1 M2 b1 b2 : Nat} {Q : RS → Nat → AH → Prop} {h : AH} {l1 l2 l3 : Int}   (kk : Wp mX12_falls (kR fr M1 M2) Q (b1, b2) 103 [zR 98, zI l1, zI l2, zI l3] [] 137 h) : Wp mX12_falls (kR fr M1 M2) Q (b1, b2) 76 [zR 98, zI l1, zI l2, zI l3] [] 137 h := by
  exact s_goto (tgt := 103) dX12_falls_76 (by decide) kk
theorem bX12_falls_79 {fr M1 M2 b1 b2 : Nat} {Q : RS → Nat → AH → Prop} {h : AH} {l1 l2 l3 : Int}  (r1 : 0 ≤ l2 ∧ l2 < 16 := by omega) (r2 : 0 ≤ l3 ∧ l3 < 32 := by omega) (r3 : 0 ≤ l3 ∧ l3 < 16 := by omega) (r4 : 0 ≤ l2 ∧ l2 < 32 := by omega) (kk : Wp mX12_falls (kR fr M1 M2) Q (b1, b2) 103 [zR 98, zI l1, zI l2, zI l3] [] 137 (up (up h 131 l2 (bOr (h 131 l2) (1 * 2 ^ l3.toNat))) 131 l3 (bOr ((up h 131 l2 (bOr (h 131 l2) (1 * 2 ^ l3.toNat))) 131 l3) (1 * 2 ^ l2.toNat)))) : Wp mX12_falls (kR fr M1 M2) Q (b1, b2) 79 [zR 98, zI l1, zI l2, zI l3] [] 137 h := by
  refine s_aload_n (x := 98) dX12_falls_79 rfl ?_
  refine s_getFd (c := 98) (d := 131) dX12_falls_80 lX12_118 e98 (Or.inl rfl) (by decide) (by decide) ?_
  refine s_iload_n (x := l2) dX12_falls_83 rfl ?_
  refine s_dup2 dX12_falls_84 rfl rfl ?_
  refine s_iald (c := 131) (i := l2) dX12_falls_85 e131 r1.1 r1.2 ?_
  refine s_iconst dX12_falls_86 ?_
  refine s_iload_n (x := l3) dX12_falls_87 rfl ?_
  refine s_ishlN dX12_falls_88 r2.1 r2.2 ?_
  refine s_ior dX12_falls_89 ?_
  refine s_iast (c := 131) (i := l2) dX12_falls_90 e131 r1.1 r1.2 ?_
  refine s_aload_n (x := 98) dX12_falls_91 rfl ?_
  refine s_getFd (c := 98) (d := 131) dX12_falls_92 lX12_118 e98 (Or.inl rfl) (by decide) (by decide) ?_
  refine s_iload_n (x := l3) dX12_falls_95 rfl ?_
  refine s_dup2 dX12_falls_96 rfl rfl ?_
  refine s_iald (c := 131) (i := l3) dX12_falls_97 e131 r3.1 r3.2 ?_
  refine s_iconst dX12_falls_98 ?_
  refine s_iload_n (x := l2) dX12_falls_99 rfl ?_
  refine s_ishlN dX12_falls_100 r4.1 r4.2 ?_
  refine s_ior dX12_falls_101 ?_
  refine s_iast (c := 131) (i := l3) dX12_falls_102 e131 r3.1 r3.2 ?_
  exact kk
theorem bX12_falls_103 {fr M1 M2 b1 b2 : Nat} {Q : RS → Nat → AH → Prop} {h : AH} {l1 l2 l3 : Int}   (kk : Wp mX12_falls (kR fr M1 M2) Q (b1, b2) 54 [zR 98, zI l1, zI l2, zI (l3 + 1)] [] 137 h) : Wp mX12_falls (kR fr M1 M2) Q (b1, b2) 103 [zR 98, zI l1, zI l2, zI l3] [] 137 h := by
  refine s_iinc (x := l3) dX12_falls_103 rfl rfl (by decide) ?_
  exact s_goto (tgt := 54) dX12_falls_106 (by decide) kk
theorem bX12_falls_109 {fr M1 M2 b1 b2 : Nat} {Q : RS → Nat → AH → Prop} {h : AH} {l1 l2 : Int} {x3 : AV}   (kk : Wp mX12_falls (kR fr M1 M2) Q (b1, b2) 23 [zR 98, zI l1, zI (l2 + 1), none] [] 137 h) : Wp mX12_falls (kR fr M1 M2) Q (b1, b2) 109 [zR 98, zI l1, zI l2, x3] [] 137 h := by
  refine s_fgt (fgt_c (fgt_c (fgt_c (fgt_n _ fgt_0)))) ?_
  refine s_iinc (x := l2) dX12_falls_109 rfl rfl (by decide) ?_
  exact s_goto (tgt := 23) dX12_falls_112 (by decide) kk
theorem bX12_falls_115 {fr M1 M2 b1 b2 : Nat} {Q : RS → Nat → AH → Prop} {h : AH} {x0 x1 x2 x3 : AV}   (hq : Q (.inl none) 137 h) : Wp mX12_falls (kR fr M1 M2) Q (b1, b2) 115 [x0, x1, x2, x3] [] 137 h := by
  refine s_fgt (fgt_n _ (fgt_n _ (fgt_n _ (fgt_n _ fgt_0)))) ?_
  exact s_return dX12_falls_115 rfl hq (fun z => by cases z)
theorem dX12_code_0 : decode mX12_code.cd 0 = .ok (.aload_n 0, 1) := by decide +kernel
theorem dX12_code_1 : decode mX12_code.cd 1 = .ok (.iconst 0, 1) := by decide +kernel
theorem dX12_code_2 : decode mX12_code.cd 2 = .ok (.putfield 136, 3) := by decide +kernel
theorem dX12_code_5 : decode mX12_code.cd 5 = .ok (.aload_n 0, 1) := by decide +kernel
theorem dX12_code_6 : decode mX12_code.cd 6 = .ok (.iload_n 1, 1) := by decide +kernel
theorem dX12_code_7 : decode mX12_code.cd 7 = .ok (.invokevirtual 325, 3) := by decide +kernel
theorem dX12_code_10 : decode mX12_code.cd 10 = .ok (.ifCond .eq 18, 3) := by decide +kernel
theorem dX12_code_13 : decode mX12_code.cd 13 = .ok (.aload_n 0, 1) := by decide +kernel
theorem dX12_code_14 : decode mX12_code.cd 14 = .ok (.iload_n 2, 1) := by decide +kernel
theorem dX12_code_15 : decode mX12_code.cd 15 = .ok (.iconst 0, 1) := by decide +kernel
theorem dX12_code_16 : decode mX12_code.cd 16 = .ok (.bipush 17, 2) := by decide +kernel
theorem dX12_code_18 : decode mX12_code.cd 18 = .ok (.invokestatic 301, 3) := by decide +kernel
theorem dX12_code_21 : decode mX12_code.cd 21 = .ok (.iconst 1, 1) := by decide +kernel
theorem dX12_code_22 : decode mX12_code.cd 22 = .ok (.invokevirtual 260, 3) := by decide +kernel
theorem dX12_code_25 : decode mX12_code.cd 25 = .ok (.ifCond .ne 5, 3) := by decide +kernel
theorem dX12_code_28 : decode mX12_code.cd 28 = .ok (.iconst 0, 1) := by decide +kernel
theorem dX12_code_29 : decode mX12_code.cd 29 = .ok (.ireturn, 1) := by decide +kernel
theorem dX12_code_30 : decode mX12_code.cd 30 = .ok (.aload_n 0, 1) := by decide +kernel
theorem dX12_code_31 : decode mX12_code.cd 31 = .ok (.iload_n 1, 1) := by decide +kernel
theorem dX12_code_32 : decode mX12_code.cd 32 = .ok (.invokevirtual 454, 3) := by decide +kernel
theorem dX12_code_35 : decode mX12_code.cd 35 = .ok (.iload_n 2, 1) := by decide +kernel
theorem dX12_code_36 : decode mX12_code.cd 36 = .ok (.iconst 2, 1) := by decide +kernel
theorem dX12_code_37 : decode mX12_code.cd 37 = .ok (.if_icmp .lt 12, 3) := by decide +kernel
theorem dX12_code_40 : decode mX12_code.cd 40 = .ok (.aload_n 0, 1) := by decide +kernel
theorem dX12_code_41 : decode mX12_code.cd 41 = .ok (.getfield 118, 3) := by decide +kernel
theorem dX12_code_44 : decode mX12_code.cd 44 = .ok (.iload_n 2, 1) := by decide +kernel
theorem dX12_code_45 : decode mX12_code.cd 45 = .ok (.iconst 2, 1) := by decide +kernel
theorem dX12_code_46 : decode mX12_code.cd 46 = .ok (.isub, 1) := by decide +kernel
theorem dX12_code_47 : decode mX12_code.cd 47 = .ok (.iaload, 1) := by decide +kernel
theorem dX12_code_48 : decode mX12_code.cd 48 = .ok (.ireturn, 1) := by decide +kernel
theorem dX12_code_49 : decode mX12_code.cd 49 = .ok (.iconst 0, 1) := by decide +kernel
theorem dX12_code_50 : decode mX12_code.cd 50 = .ok (.istore_n 3, 1) := by decide +kernel
theorem dX12_code_51 : decode mX12_code.cd 51 = .ok (.iconst 0, 1) := by decide +kernel
theorem dX12_code_52 : decode mX12_code.cd 52 = .ok (.istore 4, 2) := by decide +kernel
theorem dX12_code_54 : decode mX12_code.cd 54 = .ok (.iconst 0, 1) := by decide +kernel
theorem dX12_code_55 : decode mX12_code.cd 55 = .ok (.istore 5, 2) := by decide +kernel
theorem dX12_code_57 : decode mX12_code.cd 57 = .ok (.iconst 1, 1) := by decide +kernel
theorem dX12_code_58 : decode mX12_code.cd 58 = .ok (.istore 6, 2) := by decide +kernel
theorem dX12_code_60 : decode mX12_code.cd 60 = .ok (.iload 6, 2) := by decide +kernel
theorem dX12_code_62 : decode mX12_code.cd 62 = .ok (.ldc_w 457, 3) := by decide +kernel
theorem dX12_code_65 : decode mX12_code.cd 65 = .ok (.if_icmp .ge 124, 3) := by decide +kernel
theorem dX12_code_68 : decode mX12_code.cd 68 = .ok (.iconst 0, 1) := by decide +kernel
theorem dX12_code_69 : decode mX12_code.cd 69 = .ok (.istore 7, 2) := by decide +kernel
theorem dX12_code_71 : decode mX12_code.cd 71 = .ok (.iconst 0, 1) := by decide +kernel
theorem dX12_code_72 : decode mX12_code.cd 72 = .ok (.istore 8, 2) := by decide +kernel
theorem dX12_code_74 : decode mX12_code.cd 74 = .ok (.iconst 1, 1) := by decide +kernel
theorem dX12_code_75 : decode mX12_code.cd 75 = .ok (.istore 9, 2) := by decide +kernel
theorem dX12_code_77 : decode mX12_code.cd 77 = .ok (.iconst 0, 1) := by decide +kernel
theorem dX12_code_78 : decode mX12_code.cd 78 = .ok (.istore 10, 2) := by decide +kernel
theorem dX12_code_80 : decode mX12_code.cd 80 = .ok (.iload 10, 2) := by decide +kernel
theorem dX12_code_82 : decode mX12_code.cd 82 = .ok (.bipush 16, 2) := by decide +kernel
theorem dX12_code_84 : decode mX12_code.cd 84 = .ok (.if_icmp .ge 59, 3) := by decide +kernel
theorem dX12_code_87 : decode mX12_code.cd 87 = .ok (.iload 9, 2) := by decide +kernel
theorem dX12_code_89 : decode mX12_code.cd 89 = .ok (.ifCond .eq 54, 3) := by decide +kernel
theorem dX12_code_92 : decode mX12_code.cd 92 = .ok (.iload 6, 2) := by decide +kernel
theorem dX12_code_94 : decode mX12_code.cd 94 = .ok (.iload 10, 2) := by decide +kernel
theorem dX12_code_96 : decode mX12_code.cd 96 = .ok (.ishr, 1) := by decide +kernel
theorem dX12_code_97 : decode mX12_code.cd 97 = .ok (.iconst 1, 1) := by decide +kernel
theorem dX12_code_98 : decode mX12_code.cd 98 = .ok (.iand, 1) := by decide +kernel
theorem dX12_code_99 : decode mX12_code.cd 99 = .ok (.ifCond .ne 6, 3) := by decide +kernel
theorem dX12_code_102 : decode mX12_code.cd 102 = .ok (.goto 35, 3) := by decide +kernel
theorem dX12_code_105 : decode mX12_code.cd 105 = .ok (.iinc 7 1, 3) := by decide +kernel
theorem dX12_code_108 : decode mX12_code.cd 108 = .ok (.iload 8, 2) := by decide +kernel
theorem dX12_code_110 : decode mX12_code.cd 110 = .ok (.iload 10, 2) := by decide +kernel
theorem dX12_code_112 : decode mX12_code.cd 112 = .ok (.iconst 2, 1) := by decide +kernel
theorem dX12_code_113 : decode mX12_code.cd 113 = .ok (.iadd, 1) := by decide +kernel
theorem dX12_code_114 : decode mX12_code.cd 114 = .ok (.iadd, 1) := by decide +kernel
theorem dX12_code_115 : decode mX12_code.cd 115 = .ok (.istore 8, 2) := by decide +kernel
theorem dX12_code_117 : decode mX12_code.cd 117 = .ok (.aload_n 0, 1) := by decide +kernel
theorem dX12_code_118 : decode mX12_code.cd 118 = .ok (.getfield 118, 3) := by decide +kernel
theorem dX12_code_121 : decode mX12_code.cd 121 = .ok (.iload 10, 2) := by decide +kernel
theorem dX12_code_123 : decode mX12_code.cd 123 = .ok (.iaload, 1) := by decide +kernel
theorem dX12_code_124 : decode mX12_code.cd 124 = .ok (.iload 6, 2) := by decide +kernel
theorem dX12_code_126 : decode mX12_code.cd 126 = .ok (.iand, 1) := by decide +kernel
theorem dX12_code_127 : decode mX12_code.cd 127 = .ok (.ifCond .ne 7, 3) := by decide +kernel
theorem dX12_code_130 : decode mX12_code.cd 130 = .ok (.iconst 1, 1) := by decide +kernel
theorem dX12_code_131 : decode mX12_code.cd 131 = .ok (.goto 4, 3) := by decide +kernel
theorem dX12_code_134 : decode mX12_code.cd 134 = .ok (.iconst 0, 1) := by decide +kernel
theorem dX12_code_135 : decode mX12_code.cd 135 = .ok (.istore 9, 2) := by decide +kernel
theorem dX12_code_137 : decode mX12_code.cd 137 = .ok (.iinc 10 1, 3) := by decide +kernel
theorem dX12_code_140 : decode mX12_code.cd 140 = .ok (.goto (-60), 3) := by decide +kernel
theorem dX12_code_143 : decode mX12_code.cd 143 = .ok (.iload 9, 2) := by decide +kernel
theorem dX12_code_145 : decode mX12_code.cd 145 = .ok (.ifCond .eq 38, 3) := by decide +kernel
theorem dX12_code_148 : decode mX12_code.cd 148 = .ok (.iload 7, 2) := by decide +kernel
theorem dX12_code_150 : decode mX12_code.cd 150 = .ok (.iload 4, 2) := by decide +kernel
theorem dX12_code_152 : decode mX12_code.cd 152 = .ok (.if_icmp .lt 31, 3) := by decide +kernel
theorem dX12_code_155 : decode mX12_code.cd 155 = .ok (.iload 7, 2) := by decide +kernel
theorem dX12_code_157 : decode mX12_code.cd 157 = .ok (.iload 4, 2) := by decide +kernel
theorem dX12_code_159 : decode mX12_code.cd 159 = .ok (.if_icmp .ne 13, 3) := by decide +kernel
theorem dX12_code_162 : decode mX12_code.cd 162 = .ok (.iload 8, 2) := by decide +kernel
theorem dX12_code_164 : decode mX12_code.cd 164 = .ok (.iload 5, 2) := by decide +kernel
theorem dX12_code_166 : decode mX12_code.cd 166 = .ok (.if_icmp .lt 6, 3) := by decide +kernel
theorem dX12_code_169 : decode mX12_code.cd 169 = .ok (.goto 14, 3) := by decide +kernel
theorem dX12_code_172 : decode mX12_code.cd 172 = .ok (.iload 6, 2) := by decide +kernel
theorem dX12_code_174 : decode mX12_code.cd 174 = .ok (.istore_n 3, 1) := by decide +kernel
theorem dX12_code_175 : decode mX12_code.cd 175 = .ok (.iload 7, 2) := by decide +kernel
theorem dX12_code_177 : decode mX12_code.cd 177 = .ok (.istore 4, 2) := by decide +kernel
theorem dX12_code_179 : decode mX12_code.cd 179 = .ok (.iload 8, 2) := by decide +kernel
theorem dX12_code_181 : decode mX12_code.cd 181 = .ok (.istore 5, 2) := by decide +kernel
theorem dX12_code_183 : decode mX12_code.cd 183 = .ok (.iinc 6 1, 3) := by decide +kernel
theorem dX12_code_186 : decode mX12_code.cd 186 = .ok (.goto (-126), 3) := by decide +kernel
theorem dX12_code_189 : decode mX12_code.cd 189 = .ok (.iload_n 2, 1) := by decide +kernel
theorem dX12_code_190 : decode mX12_code.cd 190 = .ok (.ifCond .ne 8, 3) := by decide +kernel
theorem dX12_code_193 : decode mX12_code.cd 193 = .ok (.iload 4, 2) := by decide +kernel
theorem dX12_code_195 : decode mX12_code.cd 195 = .ok (.goto 4, 3) := by decide +kernel
theorem dX12_code_198 : decode mX12_code.cd 198 = .ok (.iload_n 3, 1) := by decide +kernel
theorem dX12_code_199 : decode mX12_code.cd 199 = .ok (.ireturn, 1) := by decide +kernel
theorem bX12_code_0 {fr M1 M2 b1 b2 : Nat} {Q : RS → Nat → AH → Prop} {h : AH} {l1 l2 : Int} {x3 x4 x5 x6 x7 x8 x9 x10 : AV} {R : Int → AH → Prop}   (hS : Sp mX12_isSound true (fr - 1) 0 0 [zR 98, zI l1] 137 (up h 98 0 0) (rI R)) (hf : 1 ≤ fr := by omega) (kk : ∀ (x : Int) (h' : AH), R x h' → Wp mX12_code (kR fr M1 M2) Q (b1, b2) 10 [zR 98, zI l1, zI l2, none, none, none, none, none, none, none, none] [zI x] 137 h') : Wp mX12_code (kR fr M1 M2) Q (b1, b2) 0 [zR 98, zI l1, zI l2, x3, x4, x5, x6, x7, x8, x9, x10] [] 137 h := by
  refine s_fgt (fgt_c (fgt_c (fgt_c (fgt_n _ (fgt_n _ (fgt_n _ (fgt_n _ (fgt_n _ (fgt_n _ (fgt_n _ (fgt_n _ fgt_0))))))))))) ?_
  refine s_aload_n (x := 98) dX12_code_0 rfl ?_
  refine s_iconst dX12_code_1 ?_
  refine s_put (c := 98) dX12_code_2 lX12_136 e98 ?_
  refine s_aload_n (x := 98) dX12_code_5 rfl ?_
  refine s_iload_n (x := l1) dX12_code_6 rfl ?_
  exact s_callV (as := [zI l1]) (st := []) (o := 98) dX12_code_7 kX12_325 rfl ⟨12, 87, TX12, e98, rfl, by decide⟩ rfl rfl (Nat.le_of_ble_eq_true rfl) hS (show fr - 1 + 1 ≤ fr by omega) (Nat.zero_le _) (Nat.zero_le _) (fun v n' h' hP _ => by obtain ⟨x, e, rfl, hR⟩ := hP; cases e; exact kk x h' hR) (fun E n' h' _ z => (rI_nt _ _ _ z).elim)
theorem bX12_code_10 {fr M1 M2 b1 b2 : Nat} {Q : RS → Nat → AH → Prop} {h : AH} {l1 l2 s0 : Int} {x3 x4 x5 x6 x7 x8 x9 x10 : AV}  (r1 : -2147483648 ≤ s0 ∧ s0 < 2147483648 := by omega) (kt : s0 = 0 → Wp mX12_code (kR fr M1 M2) Q (b1, b2) 28 [zR 98, zI l1, zI l2, none, none, none, none, none, none, none, none] [] 137 h) (kf : ¬ s0 = 0 → Wp mX12_code (kR fr M1 M2) Q (b1, b2) 13 [zR 98, zI l1, zI l2, none, none, none, none, none, none, none, none] [] 137 h) : Wp mX12_code (kR fr M1 M2) Q (b1, b2) 10 [zR 98, zI l1, zI l2, x3, x4, x5, x6, x7, x8, x9, x10] [zI s0] 137 h := by
  refine s_fgt (fgt_c (fgt_c (fgt_c (fgt_n _ (fgt_n _ (fgt_n _ (fgt_n _ (fgt_n _ (fgt_n _ (fgt_n _ (fgt_n _ fgt_0))))))))))) ?_
  exact s_if_eq (tgt := 28) dX12_code_10 (by decide) r1 kt kf
theorem bX12_code_13 {fr M1 M2 b1 b2 : Nat} {Q : RS → Nat → AH → Prop} {h : AH} {l1 l2 : Int} {x3 x4 x5 x6 x7 x8 x9 x10 : AV} {R : Int → AH → Prop}   (hS : Sp mX12_within true (fr - 1) 0 0 [zI l2, zI 0, zI 17] 137 h (rI R)) (hf : 1 ≤ fr := by omega) (kk : ∀ (x : Int) (h' : AH), R x h' → Wp mX12_code (kR fr M1 M2) Q (b1, b2) 21 [zR 98, zI l1, zI l2, none, none, none, none, none, none, none, none] [zI x, zR 98] 137 h') : Wp mX12_code (kR fr M1 M2) Q (b1, b2) 13 [zR 98, zI l1, zI l2, x3, x4, x5, x6, x7, x8, x9, x10] [] 137 h := by
  refine s_fgt (fgt_c (fgt_c (fgt_c (fgt_n _ (fgt_n _ (fgt_n _ (fgt_n _ (fgt_n _ (fgt_n _ (fgt_n _ (fgt_n _ fgt_0))))))))))) ?_
  refine s_aload_n (x := 98) dX12_code_13 rfl ?_
  refine s_iload_n (x := l2) dX12_code_14 rfl ?_
  refine s_iconst dX12_code_15 ?_
  refine s_bipush dX12_code_16 (by decide) ?_
  exact s_callS (as := [zI l2, zI 0, zI 17]) (st := [zR 98]) dX12_code_18 kX12_301 rfl rfl (Nat.le_of_ble_eq_true rfl) hS (show fr - 1 + 1 ≤ fr by omega) (Nat.zero_le _) (Nat.zero_le _) (fun v n' h' hP _ => by obtain ⟨x, e, rfl, hR⟩ := hP; cases e; exact kk x h' hR) (fun E n' h' _ z => (rI_nt _ _ _ z).elim)
theorem bX12_code_21 {fr M1 M2 b1 b2 : Nat} {Q : RS → Nat → AH → Prop} {h : AH} {l1 l2 s0 : Int} {x3 x4 x5 x6 x7 x8 x9 x10 : AV} {R : Int → AH → Prop}   (hS : Sp mX12_right true (fr - 1) 0 0 [zR 98, zI s0, zI 1] 137 h (rI R)) (hf : 1 ≤ fr := by omega) (kk : ∀ (x : Int) (h' : AH), R x h' → Wp mX12_code (kR fr M1 M2) Q (b1, b2) 25 [zR 98, zI l1, zI l2, none, none, none, none, none, none, none, none] [zI x] 137 h') : Wp mX12_code (kR fr M1 M2) Q (b1, b2) 21 [zR 98, zI l1, zI l2, x3, x4, x5, x6, x7, x8, x9, x10] [zI s0, zR 98] 137 h := by
  refine s_fgt (fgt_c (fgt_c (fgt_c (fgt_n _ (fgt_n _ (fgt_n _ (fgt_n _ (fgt_n _ (fgt_n _ (fgt_n _ (fgt_n _ fgt_0))))))))))) ?_
  refine s_iconst dX12_code_21 ?_
  exact s_callV (as := [zI s0, zI 1]) (st := []) (o := 98) dX12_code_22 kX12_260 rfl ⟨12, 87, TX12, e98, rfl, by decide⟩ rfl rfl (Nat.le_of_ble_eq_true rfl) hS (show fr - 1 + 1 ≤ fr by omega) (Nat.zero_le _) (Nat.zero_le _) (fun v n' h' hP _ => by obtain ⟨x, e, rfl, hR⟩ := hP; cases e; exact kk x h' hR) (fun E n' h' _ z => (rI_nt _ _ _ z).elim)
theorem bX12_code_25 {fr M1 M2 b1 b2 : Nat} {Q : RS → Nat → AH → Prop} {h : AH} {l1 l2 s0 : Int} {x3 x4 x5 x6 x7 x8 x9 x10 : AV}  (r1 : -2147483648 ≤ s0 ∧ s0 < 2147483648 := by omega) (kt : ¬ s0 = 0 → Wp mX12_code (kR fr M1 M2) Q (b1, b2) 30 [zR 98, zI l1, zI l2, none, none, none, none, none, none, none, none] [] 137 h) (kf : s0 = 0 → Wp mX12_code (kR fr M1 M2) Q (b1, b2) 28 [zR 98, zI l1, zI l2, none, none, none, none, none, none, none, none] [] 137 h) : Wp mX12_code (kR fr M1 M2) Q (b1, b2) 25 [zR 98, zI l1, zI l2, x3, x4, x5, x6, x7, x8, x9, x10] [zI s0] 137 h := by
  refine s_fgt (fgt_c (fgt_c (fgt_c (fgt_n _ (fgt_n _ (fgt_n _ (fgt_n _ (fgt_n _ (fgt_n _ (fgt_n _ (fgt_n _ fgt_0))))))))))) ?_
  exact s_if_ne (tgt := 30) dX12_code_25 (by decide) r1 kt kf
theorem bX12_code_28 {fr M1 M2 b1 b2 : Nat} {Q : RS → Nat → AH → Prop} {h : AH} {x0 x1 x2 x3 x4 x5 x6 x7 x8 x9 x10 : AV}   (hq : Q (.inl (some (zI 0))) 137 h) : Wp mX12_code (kR fr M1 M2) Q (b1, b2) 28 [x0, x1, x2, x3, x4, x5, x6, x7, x8, x9, x10] [] 137 h := by
  refine s_fgt (fgt_n _ (fgt_n _ (fgt_n _ (fgt_n _ (fgt_n _ (fgt_n _ (fgt_n _ (fgt_n _ (fgt_n _ (fgt_n _ (fgt_n _ fgt_0))))))))))) ?_
  refine s_iconst dX12_code_28 ?_
  exact s_ireturn dX12_code_29 ⟨.int, rfl, rfl⟩ hq (fun z => by cases z)
theorem bX12_code_30 {fr M1 M2 b1 b2 : Nat} {Q : RS → Nat → AH → Prop} {h : AH} {l1 l2 : Int} {x3 x4 x5 x6 x7 x8 x9 x10 : AV} {R : AH → Prop}   (hS : Sp mX12_falls true (fr - 1) 0 0 [zR 98, zI l1] 137 h (rV R)) (hf : 1 ≤ fr := by omega) (kk : ∀ h' : AH, R h' → Wp mX12_code (kR fr M1 M2) Q (b1, b2) 35 [zR 98, zI l1, zI l2, none, none, none, none, none, none, none, none] [] 137 h') : Wp mX12_code (kR fr M1 M2) Q (b1, b2) 30 [zR 98, zI l1, zI l2, x3, x4, x5, x6, x7, x8, x9, x10] [] 137 h := by
  refine s_fgt (fgt_c (fgt_c (fgt_c (fgt_n _ (fgt_n _ (fgt_n _ (fgt_n _ (fgt_n _ (fgt_n _ (fgt_n _ (fgt_n _ fgt_0))))))))))) ?_
  refine s_aload_n (x := 98) dX12_code_30 rfl ?_
  refine s_iload_n (x := l1) dX12_code_31 rfl ?_
  exact s_callV (as := [zI l1]) (st := []) (o := 98) dX12_code_32 kX12_454 rfl ⟨12, 87, TX12, e98, rfl, by decide⟩ rfl rfl (Nat.le_of_ble_eq_true rfl) hS (show fr - 1 + 1 ≤ fr by omega) (Nat.zero_le _) (Nat.zero_le _) (fun v n' h' hP _ => by obtain ⟨e, rfl, hR⟩ := hP; cases e; exact kk h' hR) (fun E n' h' _ z => (rV_nt _ _ _ z).elim)
theorem bX12_code_35 {fr M1 M2 b1 b2 : Nat} {Q : RS → Nat → AH → Prop} {h : AH} {l2 : Int} {x1 x3 x4 x5 x6 x7 x8 x9 x10 : AV}  (r1 : -2147483648 ≤ l2 ∧ l2 < 2147483648 := by omega) (kt : l2 < 2 → Wp mX12_code (kR fr M1 M2) Q (b1, b2) 49 [zR 98, none, zI l2, none, none, none, none, none, none, none, none] [] 137 h) (kf : 2 ≤ l2 → Wp mX12_code (kR fr M1 M2) Q (b1, b2) 40 [zR 98, none, zI l2, none, none, none, none, none, none, none, none] [] 137 h) : Wp mX12_code (kR fr M1 M2) Q (b1, b2) 35 [zR 98, x1, zI l2, x3, x4, x5, x6, x7, x8, x9, x10] [] 137 h := by
  refine s_fgt (fgt_c (fgt_n _ (fgt_c (fgt_n _ (fgt_n _ (fgt_n _ (fgt_n _ (fgt_n _ (fgt_n _ (fgt_n _ (fgt_n _ fgt_0))))))))))) ?_
  refine s_iload_n (x := l2) dX12_code_35 rfl ?_
  refine s_iconst dX12_code_36 ?_
  exact s_icmp_lt (tgt := 49) dX12_code_37 (by decide) r1 ⟨by decide, by decide⟩ kt kf
theorem bX12_code_40 {fr M1 M2 b1 b2 : Nat} {Q : RS → Nat → AH → Prop} {h : AH} {l2 : Int} {x1 x3 x4 x5 x6 x7 x8 x9 x10 : AV}  (r1 : 0 ≤ l2 - 2 ∧ l2 - 2 < 16 := by omega) (hq : Q (.inl (some (zI (h 131 (l2 - 2))))) 137 h) : Wp mX12_code (kR fr M1 M2) Q (b1, b2) 40 [zR 98, x1, zI l2, x3, x4, x5, x6, x7, x8, x9, x10] [] 137 h := by
  refine s_fgt (fgt_c (fgt_n _ (fgt_c (fgt_n _ (fgt_n _ (fgt_n _ (fgt_n _ (fgt_n _ (fgt_n _ (fgt_n _ (fgt_n _ fgt_0))))))))))) ?_
  refine s_aload_n (x := 98) dX12_code_40 rfl ?_
  refine s_getFd (c := 98) (d := 131) dX12_code_41 lX12_118 e98 (Or.inl rfl) (by decide) (by decide) ?_
  refine s_iload_n (x := l2) dX12_code_44 rfl ?_
  refine s_iconst dX12_code_45 ?_
  refine s_isub dX12_code_46 ?_
  refine s_iald (c := 131) (i := l2 - 2) dX12_code_47 e131 r1.1 r1.2 ?_
  exact s_ireturn dX12_code_48 ⟨.int, rfl, rfl⟩ hq (fun z => by cases z)
theorem bX12_code_49 {fr M1 M2 b1 b2 : Nat} {Q : RS → Nat → AH → Prop} {h : AH} {l2 : Int} {x1 x3 x4 x5 x6 x7 x8 x9 x10 : AV}   (kk : Wp mX12_code (kR fr M1 M2) Q (b1, b2) 60 [zR 98, none, zI l2, zI 0, zI 0, zI 0, zI 1, none, none, none, none] [] 137 h) : Wp mX12_code (kR fr M1 M2) Q (b1, b2) 49 [zR 98, x1, zI l2, x3, x4, x5, x6, x7, x8, x9, x10] [] 137 h := by
  refine s_fgt (fgt_c (fgt_n _ (fgt_c (fgt_n _ (fgt_n _ (fgt_n _ (fgt_n _ (fgt_n _ (fgt_n _ (fgt_n _ (fgt_n _ fgt_0))))))))))) ?_
  refine s_iconst dX12_code_49 ?_
  refine s_istore_n dX12_code_50 rfl (by decide) ?_
  refine s_iconst dX12_code_51 ?_
  refine s_istore dX12_code_52 rfl (by decide) ?_
  refine s_iconst dX12_code_54 ?_
  refine s_istore dX12_code_55 rfl (by decide) ?_
  refine s_iconst dX12_code_57 ?_
  refine s_istore dX12_code_58 rfl (by decide) ?_
  exact kk
theorem bX12_code_60 {fr M1 M2 b1 b2 : Nat} {Q : RS → Nat → AH → Prop} {h : AH} {l2 l3 l4 l5 l6 : Int} {x1 x7 x8 x9 x10 : AV}  (r1 : -2147483648 ≤ l6 ∧ l6 < 2147483648 := by omega) (kt : 65536 ≤ l6 → Wp mX12_code (kR fr M1 M2) Q (b1, b2) 189 [zR 98, none, zI l2, zI l3, zI l4, zI l5, zI l6, none, none, none, none] [] 137 h) (kf : l6 < 65536 → Wp mX12_code (kR fr M1 M2) Q (b1, b2) 68 [zR 98, none, zI l2, zI l3, zI l4, zI l5, zI l6, none, none, none, none] [] 137 h) : Wp mX12_code (kR fr M1 M2) Q (b1, b2) 60 [zR 98, x1, zI l2, zI l3, zI l4, zI l5, zI l6, x7, x8, x9, x10] [] 137 h := by
  refine s_fgt (fgt_c (fgt_n _ (fgt_c (fgt_c (fgt_c (fgt_c (fgt_c (fgt_n _ (fgt_n _ (fgt_n _ (fgt_n _ fgt_0))))))))))) ?_
  refine s_iload (x := l6) dX12_code_60 rfl ?_
  refine s_ldc_w (v := 65536) dX12_code_62 wd1906 ?_
  exact s_icmp_ge (tgt := 189) dX12_code_65 (by decide) r1 ⟨by decide, by decide⟩ kt kf
theorem bX12_code_68 {fr M1 M2 b1 b2 : Nat} {Q : RS → Nat → AH → Prop} {h : AH} {l2 l3 l4 l5 l6 : Int} {x1 x7 x8 x9 x10 : AV}   (kk : Wp mX12_code (kR fr M1 M2) Q (b1, b2) 80 [zR 98, none, zI l2, zI l3, zI l4, zI l5, zI l6, zI 0, zI 0, zI 1, zI 0] [] 137 h) : Wp mX12_code (kR fr M1 M2) Q (b1, b2) 68 [zR 98, x1, zI l2, zI l3, zI l4, zI l5, zI l6, x7, x8, x9, x10] [] 137 h := by
  refine s_fgt (fgt_c (fgt_n _ (fgt_c (fgt_c (fgt_c (fgt_c (fgt_c (fgt_n _ (fgt_n _ (fgt_n _ (fgt_n _ fgt_0))))))))))) ?_
  refine s_iconst dX12_code_68 ?_
  refine s_istore dX12_code_69 rfl (by decide) ?_
  refine s_iconst dX12_code_71 ?_
  refine s_istore dX12_code_72 rfl (by decide) ?_
  refine s_iconst dX12_code_74 ?_
  refine s_istore dX12_code_75 rfl (by decide) ?_
  refine s_iconst dX12_code_77 ?_
  refine s_istore dX12_code_78 rfl (by decide) ?_
  exact kk
theorem bX12_code_80 {fr M1 M2 b1 b2 : Nat} {Q : RS → Nat → AH → Prop} {h : AH} {l2 l3 l4 l5 l6 l7 l8 l9 l10 : Int} {x1 : AV}  (r1 : -2147483648 ≤ l10 ∧ l10 < 2147483648 := by omega) (kt : 16 ≤ l10 → Wp mX12_code (kR fr M1 M2) Q (b1, b2) 143 [zR 98, none, zI l2, zI l3, zI l4, zI l5, zI l6, zI l7, zI l8, zI l9, zI l10] [] 137 h) (kf : l10 < 16 → Wp mX12_code (kR fr M1 M2) Q (b1, b2) 87 [zR 98, none, zI l2, zI l3, zI l4, zI l5, zI l6, zI l7, zI l8, zI l9, zI l10] [] 137 h) : Wp mX12_code (kR fr M1 M2) Q (b1, b2) 80 [zR 98, x1, zI l2, zI l3, zI l4, zI l5, zI l6, zI l7, zI l8, zI l9, zI l10] [] 137 h := by
  refine s_fgt (fgt_c (fgt_n _ (fgt_c (fgt_c (fgt_c (fgt_c (fgt_c (fgt_c (fgt_c (fgt_c (fgt_c fgt_0))))))))))) ?_
  refine s_iload (x := l10) dX12_code_80 rfl ?_
  refine s_bipush dX12_code_82 (by decide) ?_
  exact s_icmp_ge (tgt := 143) dX12_code_84 (by decide) r1 ⟨by decide, by decide⟩ kt kf
theorem bX12_code_87 {fr M1 M2 b1 b2 : Nat} {Q : RS → Nat → AH → Prop} {h : AH} {l2 l3 l4 l5 l6 l7 l8 l9 l10 : Int} {x1 : AV}  (r1 : -2147483648 ≤ l9 ∧ l9 < 2147483648 := by omega) (kt : l9 = 0 → Wp mX12_code (kR fr M1 M2) Q (b1, b2) 143 [zR 98, none, zI l2, zI l3, zI l4, zI l5, zI l6, zI l7, zI l8, zI l9, zI l10] [] 137 h) (kf : ¬ l9 = 0 → Wp mX12_code (kR fr M1 M2) Q (b1, b2) 92 [zR 98, none, zI l2, zI l3, zI l4, zI l5, zI l6, zI l7, zI l8, zI l9, zI l10] [] 137 h) : Wp mX12_code (kR fr M1 M2) Q (b1, b2) 87 [zR 98, x1, zI l2, zI l3, zI l4, zI l5, zI l6, zI l7, zI l8, zI l9, zI l10] [] 137 h := by
  refine s_fgt (fgt_c (fgt_n _ (fgt_c (fgt_c (fgt_c (fgt_c (fgt_c (fgt_c (fgt_c (fgt_c (fgt_c fgt_0))))))))))) ?_
  refine s_iload (x := l9) dX12_code_87 rfl ?_
  exact s_if_eq (tgt := 143) dX12_code_89 (by decide) r1 kt kf
theorem bX12_code_92 {fr M1 M2 b1 b2 : Nat} {Q : RS → Nat → AH → Prop} {h : AH} {l2 l3 l4 l5 l6 l7 l8 l9 l10 : Int} {x1 : AV}  (r1 : 0 ≤ l10 ∧ l10 < 32 := by omega) (r2 : -2147483648 ≤ l6 ∧ l6 < 2147483648 := by omega) (r3 : -2147483648 ≤ bAnd (l6 / 2 ^ l10.toNat) 1 ∧ bAnd (l6 / 2 ^ l10.toNat) 1 < 2147483648 := by omega) (kt : ¬ bAnd (l6 / 2 ^ l10.toNat) 1 = 0 → Wp mX12_code (kR fr M1 M2) Q (b1, b2) 105 [zR 98, none, zI l2, zI l3, zI l4, zI l5, zI l6, zI l7, zI l8, zI l9, zI l10] [] 137 h) (kf : bAnd (l6 / 2 ^ l10.toNat) 1 = 0 → Wp mX12_code (kR fr M1 M2) Q (b1, b2) 102 [zR 98, none, zI l2, zI l3, zI l4, zI l5, zI l6, zI l7, zI l8, zI l9, zI l10] [] 137 h) : Wp mX12_code (kR fr M1 M2) Q (b1, b2) 92 [zR 98, x1, zI l2, zI l3, zI l4, zI l5, zI l6, zI l7, zI l8, zI l9, zI l10] [] 137 h := by
  refine s_fgt (fgt_c (fgt_n _ (fgt_c (fgt_c (fgt_c (fgt_c (fgt_c (fgt_c (fgt_c (fgt_c (fgt_c fgt_0))))))))))) ?_
  refine s_iload (x := l6) dX12_code_92 rfl ?_
  refine s_iload (x := l10) dX12_code_94 rfl ?_
  refine s_ishrN dX12_code_96 r2 r1.1 r1.2 ?_
  refine s_iconst dX12_code_97 ?_
  refine s_iand dX12_code_98 ?_
  exact s_if_ne (tgt := 105) dX12_code_99 (by decide) r3 kt kf
theorem bX12_code_102 {fr M1 M2 b1 b2 : Nat} {Q : RS → Nat → AH → Prop} {h : AH} {l2 l3 l4 l5 l6 l7 l8 l9 l10 : Int} {x1 : AV}   (kk : Wp mX12_code (kR fr M1 M2) Q (b1, b2) 137 [zR 98, none, zI l2, zI l3, zI l4, zI l5, zI l6, zI l7, zI l8, zI l9, zI l10] [] 137 h) : Wp mX12_code (kR fr M1 M2) Q (b1, b2) 102 [zR 98, x1, zI l2, zI l3, zI l4, zI l5, zI l6, zI l7, zI l8, zI l9, zI l10] [] 137 h := by
  refine s_fgt (fgt_c (fgt_n _ (fgt_c (fgt_c (fgt_c (fgt_c (fgt_c (fgt_c (fgt_c (fgt_c (fgt_c fgt_0))))))))))) ?_
  exact s_goto (tgt := 137) dX12_code_102 (by decide) kk
theorem bX12_code_105 {fr M1 M2 b1 b2 : Nat} {Q : RS → Nat → AH → Prop} {h : AH} {l2 l3 l4 l5 l6 l7 l8 l10 : Int} {x1 x9 : AV}  (r1 : 0 ≤ l10 ∧ l10 < 16 := by omega) (r2 : -2147483648 ≤ bAnd (h 131 l10) l6 ∧ bAnd (h 131 l10) l6 < 2147483648 := by omega) (kt : ¬ bAnd (h 131 l10) l6 = 0 → Wp mX12_code (kR fr M1 M2) Q (b1, b2) 134 [zR 98, none, zI l2, zI l3, zI l4, zI l5, zI l6, zI (l7 + 1), zI (l8 + (l10 + 2)), none, zI l10] [] 137 h) (kf : bAnd (h 131 l10) l6 = 0 → Wp mX12_code (kR fr M1 M2) Q (b1, b2) 130 [zR 98, none, zI l2, zI l3, zI l4, zI l5, zI l6, zI (l7 + 1), zI (l8 + (l10 + 2)), none, zI l10] [] 137 h) : Wp mX12_code (kR fr M1 M2) Q (b1, b2) 105 [zR 98, x1, zI l2, zI l3, zI l4, zI l5, zI l6, zI l7, zI l8, x9, zI l10] [] 137 h := by
  refine s_fgt (fgt_c (fgt_n _ (fgt_c (fgt_c (fgt_c (fgt_c (fgt_c (fgt_c (fgt_c (fgt_n _ (fgt_c fgt_0))))))))))) ?_
  refine s_iinc (x := l7) dX12_code_105 rfl rfl (by decide) ?_
  refine s_iload (x := l8) dX12_code_108 rfl ?_
  refine s_iload (x := l10) dX12_code_110 rfl ?_
  refine s_iconst dX12_code_112 ?_
  refine s_iadd dX12_code_113 ?_
  refine s_iadd dX12_code_114 ?_
  refine s_istore dX12_code_115 rfl (by decide) ?_
  refine s_aload_n (x := 98) dX12_code_117 rfl ?_
  refine s_getFd (c := 98) (d := 131) dX12_code_118 lX12_118 e98 (Or.inl rfl) (by decide) (by decide) ?_
  refine s_iload (x := l10) dX12_code_121 rfl ?_
  refine s_iald (c := 131) (i := l10) dX12_code_123 e131 r1.1 r1.2 ?_
  refine s_iload (x := l6) dX12_code_124 rfl ?_
  refine s_iand dX12_code_126 ?_
  exact s_if_ne (tgt := 134) dX12_code_127 (by decide) r2 kt kf
theorem bX12_code_130 {fr M1 M2 b1 b2 : Nat} {Q : RS → Nat → AH → Prop} {h : AH} {l2 l3 l4 l5 l6 l7 l8 l10 : Int} {x1 x9 : AV}   (kk : Wp mX12_code (kR fr M1 M2) Q (b1, b2) 135 [zR 98, none, zI l2, zI l3, zI l4, zI l5, zI l6, zI l7, zI l8, none, zI l10] [zI 1] 137 h) : Wp mX12_code (kR fr M1 M2) Q (b1, b2) 130 [zR 98, x1, zI l2, zI l3, zI l4, zI l5, zI l6, zI l7, zI l8, x9, zI l10] [] 137 h := by
  refine s_fgt (fgt_c (fgt_n _ (fgt_c (fgt_c (fgt_c (fgt_c (fgt_c (fgt_c (fgt_c (fgt_n _ (fgt_c fgt_0))))))))))) ?_
  refine s_iconst dX12_code_130 ?_
  exact s_goto (tgt := 135) dX12_code_131 (by decide) kk
theorem bX12_code_134 {fr M1 M2 b1 b2 : Nat} {Q : RS → Nat → AH → Prop} {h : AH} {l2 l3 l4 l5 l6 l7 l8 l10 : Int} {x1 x9 : AV}   (kk : Wp mX12_code (kR fr M1 M2) Q (b1, b2) 135 [zR 98, none, zI l2, zI l3, zI l4, zI l5, zI l6, zI l7, zI l8, none, zI l10] [zI 0] 137 h) : Wp mX12_code (kR fr M1 M2) Q (b1, b2) 134 [zR 98, x1, zI l2, zI l3, zI l4, zI l5, zI l6, zI l7, zI l8, x9, zI l10] [] 137 h := by
  refine s_fgt (fgt_c (fgt_n _ (fgt_c (fgt_c (fgt_c (fgt_c (fgt_c (fgt_c (fgt_c (fgt_n _ (fgt_c fgt_0))))))))))) ?_
  refine s_iconst dX12_code_134 ?_
  exact kk
theorem bX12_code_135 {fr M1 M2 b1 b2 : Nat} {Q : RS → Nat → AH → Prop} {h : AH} {l2 l3 l4 l5 l6 l7 l8 l10 s0 : Int} {x1 x9 : AV}   (kk : Wp mX12_code (kR fr M1 M2) Q (b1, b2) 137 [zR 98, none, zI l2, zI l3, zI l4, zI l5, zI l6, zI l7, zI l8, zI s0, zI l10] [] 137 h) : Wp mX12_code (kR fr M1 M2) Q (b1, b2) 135 [zR 98, x1, zI l2, zI l3, zI l4, zI l5, zI l6, zI l7, zI l8, x9, zI l10] [zI s0] 137 h := by
  refine s_fgt (fgt_c (fgt_n _ (fgt_c (fgt_c (fgt_c (fgt_c (fgt_c (fgt_c (fgt_c (fgt_n _ (fgt_c fgt_0))))))))))) ?_
  refine s_istore dX12_code_135 rfl (by decide) ?_
  exact kk
theorem bX12_code_137 {fr M1 M2 b1 b2 : Nat} {Q : RS → Nat → AH → Prop} {h : AH} {l2 l3 l4 l5 l6 l7 l8 l9 l10 : Int} {x1 : AV}   (kk : Wp mX12_code (kR fr M1 M2) Q (b1, b2) 80 [zR 98, none, zI l2, zI l3, zI l4, zI l5, zI l6, zI l7, zI l8, zI l9, zI (l10 + 1)] [] 137 h) : Wp mX12_code (kR fr M1 M2) Q (b1, b2) 137 [zR 98, x1, zI l2, zI l3, zI l4, zI l5, zI l6, zI l7, zI l8, zI l9, zI l10] [] 137 h := by
  refine s_fgt (fgt_c (fgt_n _ (fgt_c (fgt_c (fgt_c (fgt_c (fgt_c (fgt_c (fgt_c (fgt_c (fgt_c fgt_0))))))))))) ?_
  refine s_iinc (x := l10) dX12_code_137 rfl rfl (by decide) ?_
  exact s_goto (tgt := 80) dX12_code_140 (by decide) kk
theorem bX12_code_143 {fr M1 M2 b1 b2 : Nat} {Q : RS → Nat → AH → Prop} {h : AH} {l2 l3 l4 l5 l6 l7 l8 l9 : Int} {x1 x10 : AV}  (r1 : -2147483648 ≤ l9 ∧ l9 < 2147483648 := by omega) (kt : l9 = 0 → Wp mX12_code (kR fr M1 M2) Q (b1, b2) 183 [zR 98, none, zI l2, zI l3, zI l4, zI l5, zI l6, zI l7, zI l8, zI l9, none] [] 137 h) (kf : ¬ l9 = 0 → Wp mX12_code (kR fr M1 M2) Q (b1, b2) 148 [zR 98, none, zI l2, zI l3, zI l4, zI l5, zI l6, zI l7, zI l8, zI l9, none] [] 137 h) : Wp mX12_code (kR fr M1 M2) Q (b1, b2) 143 [zR 98, x1, zI l2, zI l3, zI l4, zI l5, zI l6, zI l7, zI l8, zI l9, x10] [] 137 h := by
  refine s_fgt (fgt_c (fgt_n _ (fgt_c (fgt_c (fgt_c (fgt_c (fgt_c (fgt_c (fgt_c (fgt_c (fgt_n _ fgt_0))))))))))) ?_
  refine s_iload (x := l9) dX12_code_143 rfl ?_
  exact s_if_eq (tgt := 183) dX12_code_145 (by decide) r1 kt kf
theorem bX12_code_148 {fr M1 M2 b1 b2 : Nat} {Q : RS → Nat → AH → Prop} {h : AH} {l2 l3 l4 l5 l6 l7 l8 : Int} {x1 x9 x10 : AV}  (r1 : -2147483648 ≤ l7 ∧ l7 < 2147483648 := by omega) (r2 : -2147483648 ≤ l4 ∧ l4 < 2147483648 := by omega) (kt : l7 < l4 → Wp mX12_code (kR fr M1 M2) Q (b1, b2) 183 [zR 98, none, zI l2, zI l3, zI l4, zI l5, zI l6, zI l7, zI l8, none, none] [] 137 h) (kf : l4 ≤ l7 → Wp mX12_code (kR fr M1 M2) Q (b1, b2) 155 [zR 98, none, zI l2, zI l3, zI l4, zI l5, zI l6, zI l7, zI l8, none, none] [] 137 h) : Wp mX12_code (kR fr M1 M2) Q (b1, b2) 148 [zR 98, x1, zI l2, zI l3, zI l4, zI l5, zI l6, zI l7, zI l8, x9, x10] [] 137 h := by
  refine s_fgt (fgt_c (fgt_n _ (fgt_c (fgt_c (fgt_c (fgt_c (fgt_c (fgt_c (fgt_c (fgt_n _ (fgt_n _ fgt_0))))))))))) ?_
  refine s_iload (x := l7) dX12_code_148 rfl ?_
  refine s_iload (x := l4) dX12_code_150 rfl ?_
  exact s_icmp_lt (tgt := 183) dX12_code_152 (by decide) r1 r2 kt kf
theorem bX12_code_155 {fr M1 M2 b1 b2 : Nat} {Q : RS → Nat → AH → Prop} {h : AH} {l2 l3 l4 l5 l6 l7 l8 : Int} {x1 x9 x10 : AV}  (r1 : -2147483648 ≤ l7 ∧ l7 < 2147483648 := by omega) (r2 : -2147483648 ≤ l4 ∧ l4 < 2147483648 := by omega) (kt : ¬ l7 = l4 → Wp mX12_code (kR fr M1 M2) Q (b1, b2) 172 [zR 98, none, zI l2, zI l3, zI l4, zI l5, zI l6, zI l7, zI l8, none, none] [] 137 h) (kf : l7 = l4 → Wp mX12_code (kR fr M1 M2) Q (b1, b2) 162 [zR 98, none, zI l2, zI l3, zI l4, zI l5, zI l6, zI l7, zI l8, none, none] [] 137 h) : Wp mX12_code (kR fr M1 M2) Q (b1, b2) 155 [zR 98, x1, zI l2, zI l3, zI l4, zI l5, zI l6, zI l7, zI l8, x9, x10] [] 137 h := by
  refine s_fgt (fgt_c (fgt_n _ (fgt_c (fgt_c (fgt_c (fgt_c (fgt_c (fgt_c (fgt_c (fgt_n _ (fgt_n _ fgt_0))))))))))) ?_
  refine s_iload (x := l7) dX12_code_155 rfl ?_
  refine s_iload (x := l4) dX12_code_157 rfl ?_
  exact s_icmp_ne (tgt := 172) dX12_code_159 (by decide) r1 r2 kt kf
theorem bX12_code_162 {fr M1 M2 b1 b2 : Nat} {Q : RS → Nat → AH → Prop} {h : AH} {l2 l3 l4 l5 l6 l7 l8 : Int} {x1 x9 x10 : AV}  (r1 : -2147483648 ≤ l8 ∧ l8 < 2147483648 := by omega) (r2 : -2147483648 ≤ l5 ∧ l5 < 2147483648 := by omega) (kt : l8 < l5 → Wp mX12_code (kR fr M1 M2) Q (b1, b2) 172 [zR 98, none, zI l2, zI l3, zI l4, zI l5, zI l6, zI l7, zI l8, none, none] [] 137 h) (kf : l5 ≤ l8 → Wp mX12_code (kR fr M1 M2) Q (b1, b2) 169 [zR 98, none, zI l2, zI l3, zI l4, zI l5, zI l6, zI l7, zI l8, none, none] [] 137 h) : Wp mX12_code (kR fr M1 M2) Q (b1, b2) 162 [zR 98, x1, zI l2, zI l3, zI l4, zI l5, zI l6, zI l7, zI l8, x9, x10] [] 137 h := by
  refine s_fgt (fgt_c (fgt_n _ (fgt_c (fgt_c (fgt_c (fgt_c (fgt_c (fgt_c (fgt_c (fgt_n _ (fgt_n _ fgt_0))))))))))) ?_
  refine s_iload (x := l8) dX12_code_162 rfl ?_
  refine s_iload (x := l5) dX12_code_164 rfl ?_
  exact s_icmp_lt (tgt := 172) dX12_code_166 (by decide) r1 r2 kt kf
theorem bX12_code_169 {fr M1 M2 b1 b2 : Nat} {Q : RS → Nat → AH → Prop} {h : AH} {l2 l3 l4 l5 l6 : Int} {x1 x7 x8 x9 x10 : AV}   (kk : Wp mX12_code (kR fr M1 M2) Q (b1, b2) 183 [zR 98, none, zI l2, zI l3, zI l4, zI l5, zI l6, none, none, none, none] [] 137 h) : Wp mX12_code (kR fr M1 M2) Q (b1, b2) 169 [zR 98, x1, zI l2, zI l3, zI l4, zI l5, zI l6, x7, x8, x9, x10] [] 137 h := by
  refine s_fgt (fgt_c (fgt_n _ (fgt_c (fgt_c (fgt_c (fgt_c (fgt_c (fgt_n _ (fgt_n _ (fgt_n _ (fgt_n _ fgt_0))))))))))) ?_
  exact s_goto (tgt := 183) dX12_code_169 (by decide) kk
theorem bX12_code_172 {fr M1 M2 b1 b2 : Nat} {Q : RS → Nat → AH → Prop} {h : AH} {l2 l6 l7 l8 : Int} {x1 x3 x4 x5 x9 x10 : AV}   (kk : Wp mX12_code (kR fr M1 M2) Q (b1, b2) 183 [zR 98, none, zI l2, zI l6, zI l7, zI l8, zI l6, zI l7, zI l8, none, none] [] 137 h) : Wp mX12_code (kR fr M1 M2) Q (b1, b2) 172 [zR 98, x1, zI l2, x3, x4, x5, zI l6, zI l7, zI l8, x9, x10] [] 137 h := by
  refine s_fgt (fgt_c (fgt_n _ (fgt_c (fgt_n _ (fgt_n _ (fgt_n _ (fgt_c (fgt_c (fgt_c (fgt_n _ (fgt_n _ fgt_0))))))))))) ?_
  refine s_iload (x := l6) dX12_code_172 rfl ?_
  refine s_istore_n dX12_code_174 rfl (by decide) ?_
  refine s_iload (x := l7) dX12_code_175 rfl ?_
  refine s_istore dX12_code_177 rfl (by decide) ?_
  refine s_iload (x := l8) dX12_code_179 rfl ?_
  refine s_istore dX12_code_181 rfl (by decide) ?_
  exact kk
theorem bX12_code_183 {fr M1 M2 b1 b2 : Nat} {Q : RS → Nat → AH → Prop} {h : AH} {l2 l3 l4 l5 l6 : Int} {x1 x7 x8 x9 x10 : AV}   (kk : Wp mX12_code (kR fr M1 M2) Q (b1, b2) 60 [zR 98, none, zI l2, zI l3, zI l4, zI l5, zI (l6 + 1), none, none, none, none] [] 137 h) : Wp mX12_code (kR fr M1 M2) Q (b1, b2) 183 [zR 98, x1, zI l2, zI l3, zI l4, zI l5, zI l6, x7, x8, x9, x10] [] 137 h := by
  refine s_fgt (fgt_c (fgt_n _ (fgt_c (fgt_c (fgt_c (fgt_c (fgt_c (fgt_n _ (fgt_n _ (fgt_n _ (fgt_n _ fgt_0))))))))))) ?_
  refine s_iinc (x := l6) dX12_code_183 rfl rfl (by decide) ?_
  exact s_goto (tgt := 60) dX12_code_186 (by decide) kk
theorem bX12_code_189 {fr M1 M2 b1 b2 : Nat} {Q : RS → Nat → AH → Prop} {h : AH} {l2 l3 l4 : Int} {x0 x1 x5 x6 x7 x8 x9 x10 : AV}  (r1 : -2147483648 ≤ l2 ∧ l2 < 2147483648 := by omega) (kt : ¬ l2 = 0 → Wp mX12_code (kR fr M1 M2) Q (b1, b2) 198 [none, none, zI l2, zI l3, zI l4, none, none, none, none, none, none] [] 137 h) (kf : l2 = 0 → Wp mX12_code (kR fr M1 M2) Q (b1, b2) 193 [none, none, zI l2, zI l3, zI l4, none, none, none, none, none, none] [] 137 h) : Wp mX12_code (kR fr M1 M2) Q (b1, b2) 189 [x0, x1, zI l2, zI l3, zI l4, x5, x6, x7, x8, x9, x10] [] 137 h := by
  refine s_fgt (fgt_n _ (fgt_n _ (fgt_c (fgt_c (fgt_c (fgt_n _ (fgt_n _ (fgt_n _ (fgt_n _ (fgt_n _ (fgt_n _ fgt_0))))))))))) ?_
  refine s_iload_n (x := l2) dX12_code_189 rfl ?_
  exact s_if_ne (tgt := 198) dX12_code_190 (by decide) r1 kt kf
theorem bX12_code_193 {fr M1 M2 b1 b2 : Nat} {Q : RS → Nat → AH → Prop} {h : AH} {l4 : Int} {x0 x1 x2 x3 x5 x6 x7 x8 x9 x10 : AV}   (kk : Wp mX12_code (kR fr M1 M2) Q (b1, b2) 199 [none, none, none, none, zI l4, none, none, none, none, none, none] [zI l4] 137 h) : Wp mX12_code (kR fr M1 M2) Q (b1, b2) 193 [x0, x1, x2, x3, zI l4, x5, x6, x7, x8, x9, x10] [] 137 h := by
  refine s_fgt (fgt_n _ (fgt_n _ (fgt_n _ (fgt_n _ (fgt_c (fgt_n _ (fgt_n _ (fgt_n _ (fgt_n _ (fgt_n _ (fgt_n _ fgt_0))))))))))) ?_
  refine s_iload (x := l4) dX12_code_193 rfl ?_
  exact s_goto (tgt := 199) dX12_code_195 (by decide) kk
theorem bX12_code_198 {fr M1 M2 b1 b2 : Nat} {Q : RS → Nat → AH → Prop} {h : AH} {l3 : Int} {x0 x1 x2 x4 x5 x6 x7 x8 x9 x10 : AV}   (kk : Wp mX12_code (kR fr M1 M2) Q (b1, b2) 199 [none, none, none, zI l3, none, none, none, none, none, none, none] [zI l3] 137 h) : Wp mX12_code (kR fr M1 M2) Q (b1, b2) 198 [x0, x1, x2, zI l3, x4, x5, x6, x7, x8, x9, x10] [] 137 h := by
  refine s_fgt (fgt_n _ (fgt_n _ (fgt_n _ (fgt_c (fgt_n _ (fgt_n _ (fgt_n _ (fgt_n _ (fgt_n _ (fgt_n _ (fgt_n _ fgt_0))))))))))) ?_
  refine s_iload_n (x := l3) dX12_code_198 rfl ?_
  exact kk
theorem bX12_code_199 {fr M1 M2 b1 b2 : Nat} {Q : RS → Nat → AH → Prop} {h : AH} {s0 : Int} {x0 x1 x2 x3 x4 x5 x6 x7 x8 x9 x10 : AV}   (hq : Q (.inl (some (zI s0))) 137 h) : Wp mX12_code (kR fr M1 M2) Q (b1, b2) 199 [x0, x1, x2, x3, x4, x5, x6, x7, x8, x9, x10] [zI s0] 137 h := by
  refine s_fgt (fgt_n _ (fgt_n _ (fgt_n _ (fgt_n _ (fgt_n _ (fgt_n _ (fgt_n _ (fgt_n _ (fgt_n _ (fgt_n _ (fgt_n _ fgt_0))))))))))) ?_
  exact s_ireturn dX12_code_199 ⟨.int, rfl, rfl⟩ hq (fun z => by cases z)
theorem dX12_image_0 : decode mX12_image.cd 0 = .ok (.aload_n 0, 1) := by decide +kernel
theorem dX12_image_1 : decode mX12_image.cd 1 = .ok (.iconst 0, 1) := by decide +kernel
theorem dX12_image_2 : decode mX12_image.cd 2 = .ok (.putfield 136, 3) := by decide +kernel
theorem dX12_image_5 : decode mX12_image.cd 5 = .ok (.aload_n 0, 1) := by decide +kernel
theorem dX12_image_6 : decode mX12_image.cd 6 = .ok (.iconst 1, 1) := by decide +kernel
theorem dX12_image_7 : decode mX12_image.cd 7 = .ok (.putfield 298, 3) := by decide +kernel
theorem dX12_image_10 : decode mX12_image.cd 10 = .ok (.aload_n 0, 1) := by decide +kernel
theorem dX12_image_11 : decode mX12_image.cd 11 = .ok (.aload_n 0, 1) := by decide +kernel
theorem dX12_image_12 : decode mX12_image.cd 12 = .ok (.getfield 289, 3) := by decide +kernel
theorem dX12_image_15 : decode mX12_image.cd 15 = .ok (.putfield 458, 3) := by decide +kernel
theorem dX12_image_18 : decode mX12_image.cd 18 = .ok (.aload_n 0, 1) := by decide +kernel
theorem dX12_image_19 : decode mX12_image.cd 19 = .ok (.aload_n 0, 1) := by decide +kernel
theorem dX12_image_20 : decode mX12_image.cd 20 = .ok (.getfield 292, 3) := by decide +kernel
theorem dX12_image_23 : decode mX12_image.cd 23 = .ok (.putfield 461, 3) := by decide +kernel
theorem dX12_image_26 : decode mX12_image.cd 26 = .ok (.aload_n 0, 1) := by decide +kernel
theorem dX12_image_27 : decode mX12_image.cd 27 = .ok (.aload_n 0, 1) := by decide +kernel
theorem dX12_image_28 : decode mX12_image.cd 28 = .ok (.getfield 295, 3) := by decide +kernel
theorem dX12_image_31 : decode mX12_image.cd 31 = .ok (.putfield 464, 3) := by decide +kernel
theorem dX12_image_34 : decode mX12_image.cd 34 = .ok (.aload_n 0, 1) := by decide +kernel
theorem dX12_image_35 : decode mX12_image.cd 35 = .ok (.aload_n 0, 1) := by decide +kernel
theorem dX12_image_36 : decode mX12_image.cd 36 = .ok (.getfield 71, 3) := by decide +kernel
theorem dX12_image_39 : decode mX12_image.cd 39 = .ok (.aload_n 0, 1) := by decide +kernel
theorem dX12_image_40 : decode mX12_image.cd 40 = .ok (.getfield 121, 3) := by decide +kernel
theorem dX12_image_43 : decode mX12_image.cd 43 = .ok (.invokevirtual 285, 3) := by decide +kernel
theorem dX12_image_46 : decode mX12_image.cd 46 = .ok (.aload_n 0, 1) := by decide +kernel
theorem dX12_image_47 : decode mX12_image.cd 47 = .ok (.aload_n 0, 1) := by decide +kernel
theorem dX12_image_48 : decode mX12_image.cd 48 = .ok (.getfield 74, 3) := by decide +kernel
theorem dX12_image_51 : decode mX12_image.cd 51 = .ok (.aload_n 0, 1) := by decide +kernel
theorem dX12_image_52 : decode mX12_image.cd 52 = .ok (.getfield 124, 3) := by decide +kernel
theorem dX12_image_55 : decode mX12_image.cd 55 = .ok (.invokevirtual 285, 3) := by decide +kernel
theorem dX12_image_58 : decode mX12_image.cd 58 = .ok (.aload_n 0, 1) := by decide +kernel
theorem dX12_image_59 : decode mX12_image.cd 59 = .ok (.aload_n 0, 1) := by decide +kernel
theorem dX12_image_60 : decode mX12_image.cd 60 = .ok (.getfield 95, 3) := by decide +kernel
theorem dX12_image_63 : decode mX12_image.cd 63 = .ok (.aload_n 0, 1) := by decide +kernel
theorem dX12_image_64 : decode mX12_image.cd 64 = .ok (.getfield 127, 3) := by decide +kernel
theorem dX12_image_67 : decode mX12_image.cd 67 = .ok (.invokevirtual 285, 3) := by decide +kernel
theorem dX12_image_70 : decode mX12_image.cd 70 = .ok (.aload_n 0, 1) := by decide +kernel
theorem dX12_image_71 : decode mX12_image.cd 71 = .ok (.aload_n 0, 1) := by decide +kernel
theorem dX12_image_72 : decode mX12_image.cd 72 = .ok (.getfield 92, 3) := by decide +kernel
theorem dX12_image_75 : decode mX12_image.cd 75 = .ok (.aload_n 0, 1) := by decide +kernel
theorem dX12_image_76 : decode mX12_image.cd 76 = .ok (.getfield 130, 3) := by decide +kernel
theorem dX12_image_79 : decode mX12_image.cd 79 = .ok (.invokevirtual 285, 3) := by decide +kernel
theorem dX12_image_82 : decode mX12_image.cd 82 = .ok (.aload_n 0, 1) := by decide +kernel
theorem dX12_image_83 : decode mX12_image.cd 83 = .ok (.aload_n 0, 1) := by decide +kernel
theorem dX12_image_84 : decode mX12_image.cd 84 = .ok (.getfield 108, 3) := by decide +kernel
theorem dX12_image_87 : decode mX12_image.cd 87 = .ok (.aload_n 0, 1) := by decide +kernel
theorem dX12_image_88 : decode mX12_image.cd 88 = .ok (.getfield 133, 3) := by decide +kernel
theorem dX12_image_91 : decode mX12_image.cd 91 = .ok (.invokevirtual 285, 3) := by decide +kernel
theorem dX12_image_94 : decode mX12_image.cd 94 = .ok (.return_, 1) := by decide +kernel
theorem bX12_image_0 {fr M1 M2 b1 b2 : Nat} {Q : RS → Nat → AH → Prop} {h : AH} {R : AH → Prop}   (hS : Sp mX12_copies true (fr - 1) 0 0 [zR 98, zR 116, zR 132] 137 (up (up (up (up (up h 98 0 0) 98 78 1) 98 79 (h 98 50)) 98 80 (h 98 68)) 98 81 (h 98 66)) (rV R)) (hf : 1 ≤ fr := by omega) (kk : ∀ h' : AH, R h' → Wp mX12_image (kR fr M1 M2) Q (b1, b2) 46 [zR 98] [] 137 h') : Wp mX12_image (kR fr M1 M2) Q (b1, b2) 0 [zR 98] [] 137 h := by
  refine s_aload_n (x := 98) dX12_image_0 rfl ?_
  refine s_iconst dX12_image_1 ?_
  refine s_put (c := 98) dX12_image_2 lX12_136 e98 ?_
  refine s_aload_n (x := 98) dX12_image_5 rfl ?_
  refine s_iconst dX12_image_6 ?_
  refine s_putZ (c := 98) dX12_image_7 lX12_298 e98 (by decide) ?_
  refine s_aload_n (x := 98) dX12_image_10 rfl ?_
  refine s_aload_n (x := 98) dX12_image_11 rfl ?_
  refine s_get (c := 98) dX12_image_12 lX12_289 e98 (by decide) ?_
  refine s_put (c := 98) dX12_image_15 lX12_458 e98 ?_
  refine s_aload_n (x := 98) dX12_image_18 rfl ?_
  refine s_aload_n (x := 98) dX12_image_19 rfl ?_
  refine s_get (c := 98) dX12_image_20 lX12_292 e98 (by decide) ?_
  refine s_put (c := 98) dX12_image_23 lX12_461 e98 ?_
  refine s_aload_n (x := 98) dX12_image_26 rfl ?_
  refine s_aload_n (x := 98) dX12_image_27 rfl ?_
  refine s_get (c := 98) dX12_image_28 lX12_295 e98 (by decide) ?_
  refine s_put (c := 98) dX12_image_31 lX12_464 e98 ?_
  refine s_aload_n (x := 98) dX12_image_34 rfl ?_
  refine s_aload_n (x := 98) dX12_image_35 rfl ?_
  refine s_getFd (c := 98) (d := 116) dX12_image_36 lX12_71 e98 (Or.inl rfl) (by decide) (by decide) ?_
  refine s_aload_n (x := 98) dX12_image_39 rfl ?_
  refine s_getFd (c := 98) (d := 132) dX12_image_40 lX12_121 e98 (Or.inl rfl) (by decide) (by decide) ?_
  exact s_callV (as := [zR 116, zR 132]) (st := []) (o := 98) dX12_image_43 kX12_285 rfl ⟨12, 87, TX12, e98, rfl, by decide⟩ rfl rfl (Nat.le_of_ble_eq_true rfl) hS (show fr - 1 + 1 ≤ fr by omega) (Nat.zero_le _) (Nat.zero_le _) (fun v n' h' hP _ => by obtain ⟨e, rfl, hR⟩ := hP; cases e; exact kk h' hR) (fun E n' h' _ z => (rV_nt _ _ _ z).elim)
theorem bX12_image_46 {fr M1 M2 b1 b2 : Nat} {Q : RS → Nat → AH → Prop} {h : AH} {R : AH → Prop}   (hS : Sp mX12_copies true (fr - 1) 0 0 [zR 98, zR 117, zR 133] 137 h (rV R)) (hf : 1 ≤ fr := by omega) (kk : ∀ h' : AH, R h' → Wp mX12_image (kR fr M1 M2) Q (b1, b2) 58 [zR 98] [] 137 h') : Wp mX12_image (kR fr M1 M2) Q (b1, b2) 46 [zR 98] [] 137 h := by
  refine s_aload_n (x := 98) dX12_image_46 rfl ?_
  refine s_aload_n (x := 98) dX12_image_47 rfl ?_
  refine s_getFd (c := 98) (d := 117) dX12_image_48 lX12_74 e98 (Or.inl rfl) (by decide) (by decide) ?_
  refine s_aload_n (x := 98) dX12_image_51 rfl ?_
  refine s_getFd (c := 98) (d := 133) dX12_image_52 lX12_124 e98 (Or.inl rfl) (by decide) (by decide) ?_
  exact s_callV (as := [zR 117, zR 133]) (st := []) (o := 98) dX12_image_55 kX12_285 rfl ⟨12, 87, TX12, e98, rfl, by decide⟩ rfl rfl (Nat.le_of_ble_eq_true rfl) hS (show fr - 1 + 1 ≤ fr by omega) (Nat.zero_le _) (Nat.zero_le _) (fun v n' h' hP _ => by obtain ⟨e, rfl, hR⟩ := hP; cases e; exact kk h' hR) (fun E n' h' _ z => (rV_nt _ _ _ z).elim)
theorem bX12_image_58 {fr M1 M2 b1 b2 : Nat} {Q : RS → Nat → AH → Prop} {h : AH} {R : AH → Prop}   (hS : Sp mX12_copies true (fr - 1) 0 0 [zR 98, zR 124, zR 134] 137 h (rV R)) (hf : 1 ≤ fr := by omega) (kk : ∀ h' : AH, R h' → Wp mX12_image (kR fr M1 M2) Q (b1, b2) 70 [zR 98] [] 137 h') : Wp mX12_image (kR fr M1 M2) Q (b1, b2) 58 [zR 98] [] 137 h := by
  refine s_aload_n (x := 98) dX12_image_58 rfl ?_
  refine s_aload_n (x := 98) dX12_image_59 rfl ?_
  refine s_getFd (c := 98) (d := 124) dX12_image_60 lX12_95 e98 (Or.inl rfl) (by decide) (by decide) ?_
  refine s_aload_n (x := 98) dX12_image_63 rfl ?_
  refine s_getFd (c := 98) (d := 134) dX12_image_64 lX12_127 e98 (Or.inl rfl) (by decide) (by decide) ?_
  exact s_callV (as := [zR 124, zR 134]) (st := []) (o := 98) dX12_image_67 kX12_285 rfl ⟨12, 87, TX12, e98, rfl, by decide⟩ rfl rfl (Nat.le_of_ble_eq_true rfl) hS (show fr - 1 + 1 ≤ fr by omega) (Nat.zero_le _) (Nat.zero_le _) (fun v n' h' hP _ => by obtain ⟨e, rfl, hR⟩ := hP; cases e; exact kk h' hR) (fun E n' h' _ z => (rV_nt _ _ _ z).elim)
theorem bX12_image_70 {fr M1 M2 b1 b2 : Nat} {Q : RS → Nat → AH → Prop} {h : AH} {R : AH → Prop}   (hS : Sp mX12_copies true (fr - 1) 0 0 [zR 98, zR 123, zR 135] 137 h (rV R)) (hf : 1 ≤ fr := by omega) (kk : ∀ h' : AH, R h' → Wp mX12_image (kR fr M1 M2) Q (b1, b2) 82 [zR 98] [] 137 h') : Wp mX12_image (kR fr M1 M2) Q (b1, b2) 70 [zR 98] [] 137 h := by
  refine s_aload_n (x := 98) dX12_image_70 rfl ?_
  refine s_aload_n (x := 98) dX12_image_71 rfl ?_
  refine s_getFd (c := 98) (d := 123) dX12_image_72 lX12_92 e98 (Or.inl rfl) (by decide) (by decide) ?_
  refine s_aload_n (x := 98) dX12_image_75 rfl ?_
  refine s_getFd (c := 98) (d := 135) dX12_image_76 lX12_130 e98 (Or.inl rfl) (by decide) (by decide) ?_
  exact s_callV (as := [zR 123, zR 135]) (st := []) (o := 98) dX12_image_79 kX12_285 rfl ⟨12, 87, TX12, e98, rfl, by decide⟩ rfl rfl (Nat.le_of_ble_eq_true rfl) hS (show fr - 1 + 1 ≤ fr by omega) (Nat.zero_le _) (Nat.zero_le _) (fun v n' h' hP _ => by obtain ⟨e, rfl, hR⟩ := hP; cases e; exact kk h' hR) (fun E n' h' _ z => (rV_nt _ _ _ z).elim)
theorem bX12_image_82 {fr M1 M2 b1 b2 : Nat} {Q : RS → Nat → AH → Prop} {h : AH} {R : AH → Prop}   (hS : Sp mX12_copies true (fr - 1) 0 0 [zR 98, zR 128, zR 136] 137 h (rV R)) (hf : 1 ≤ fr := by omega) (kk : ∀ h' : AH, R h' → Wp mX12_image (kR fr M1 M2) Q (b1, b2) 94 [zR 98] [] 137 h') : Wp mX12_image (kR fr M1 M2) Q (b1, b2) 82 [zR 98] [] 137 h := by
  refine s_aload_n (x := 98) dX12_image_82 rfl ?_
  refine s_aload_n (x := 98) dX12_image_83 rfl ?_
  refine s_getFd (c := 98) (d := 128) dX12_image_84 lX12_108 e98 (Or.inl rfl) (by decide) (by decide) ?_
  refine s_aload_n (x := 98) dX12_image_87 rfl ?_
  refine s_getFd (c := 98) (d := 136) dX12_image_88 lX12_133 e98 (Or.inl rfl) (by decide) (by decide) ?_
  exact s_callV (as := [zR 128, zR 136]) (st := []) (o := 98) dX12_image_91 kX12_285 rfl ⟨12, 87, TX12, e98, rfl, by decide⟩ rfl rfl (Nat.le_of_ble_eq_true rfl) hS (show fr - 1 + 1 ≤ fr by omega) (Nat.zero_le _) (Nat.zero_le _) (fun v n' h' hP _ => by obtain ⟨e, rfl, hR⟩ := hP; cases e; exact kk h' hR) (fun E n' h' _ z => (rV_nt _ _ _ z).elim)
theorem bX12_image_94 {fr M1 M2 b1 b2 : Nat} {Q : RS → Nat → AH → Prop} {h : AH} {x0 : AV}   (hq : Q (.inl none) 137 h) : Wp mX12_image (kR fr M1 M2) Q (b1, b2) 94 [x0] [] 137 h := by
  refine s_fgt (fgt_n _ fgt_0) ?_
  exact s_return dX12_image_94 rfl hq (fun z => by cases z)
theorem dX12_restore_0 : decode mX12_restore.cd 0 = .ok (.aload_n 0, 1) := by decide +kernel
theorem dX12_restore_1 : decode mX12_restore.cd 1 = .ok (.iconst 0, 1) := by decide +kernel
theorem dX12_restore_2 : decode mX12_restore.cd 2 = .ok (.putfield 136, 3) := by decide +kernel
theorem dX12_restore_5 : decode mX12_restore.cd 5 = .ok (.aload_n 0, 1) := by decide +kernel
theorem dX12_restore_6 : decode mX12_restore.cd 6 = .ok (.getfield 298, 3) := by decide +kernel
theorem dX12_restore_9 : decode mX12_restore.cd 9 = .ok (.ifCond .ne 5, 3) := by decide +kernel
theorem dX12_restore_12 : decode mX12_restore.cd 12 = .ok (.iconst 0, 1) := by decide +kernel
theorem dX12_restore_13 : decode mX12_restore.cd 13 = .ok (.ireturn, 1) := by decide +kernel
theorem dX12_restore_14 : decode mX12_restore.cd 14 = .ok (.aload_n 0, 1) := by decide +kernel
theorem dX12_restore_15 : decode mX12_restore.cd 15 = .ok (.aload_n 0, 1) := by decide +kernel
theorem dX12_restore_16 : decode mX12_restore.cd 16 = .ok (.getfield 458, 3) := by decide +kernel
theorem dX12_restore_19 : decode mX12_restore.cd 19 = .ok (.putfield 289, 3) := by decide +kernel
theorem dX12_restore_22 : decode mX12_restore.cd 22 = .ok (.aload_n 0, 1) := by decide +kernel
theorem dX12_restore_23 : decode mX12_restore.cd 23 = .ok (.aload_n 0, 1) := by decide +kernel
theorem dX12_restore_24 : decode mX12_restore.cd 24 = .ok (.getfield 461, 3) := by decide +kernel
theorem dX12_restore_27 : decode mX12_restore.cd 27 = .ok (.putfield 292, 3) := by decide +kernel
theorem dX12_restore_30 : decode mX12_restore.cd 30 = .ok (.aload_n 0, 1) := by decide +kernel
theorem dX12_restore_31 : decode mX12_restore.cd 31 = .ok (.aload_n 0, 1) := by decide +kernel
theorem dX12_restore_32 : decode mX12_restore.cd 32 = .ok (.getfield 464, 3) := by decide +kernel
theorem dX12_restore_35 : decode mX12_restore.cd 35 = .ok (.putfield 295, 3) := by decide +kernel
theorem dX12_restore_38 : decode mX12_restore.cd 38 = .ok (.aload_n 0, 1) := by decide +kernel
theorem dX12_restore_39 : decode mX12_restore.cd 39 = .ok (.aload_n 0, 1) := by decide +kernel
theorem dX12_restore_40 : decode mX12_restore.cd 40 = .ok (.getfield 121, 3) := by decide +kernel
theorem dX12_restore_43 : decode mX12_restore.cd 43 = .ok (.aload_n 0, 1) := by decide +kernel
theorem dX12_restore_44 : decode mX12_restore.cd 44 = .ok (.getfield 71, 3) := by decide +kernel
theorem dX12_restore_47 : decode mX12_restore.cd 47 = .ok (.invokevirtual 285, 3) := by decide +kernel
theorem dX12_restore_50 : decode mX12_restore.cd 50 = .ok (.aload_n 0, 1) := by decide +kernel
theorem dX12_restore_51 : decode mX12_restore.cd 51 = .ok (.aload_n 0, 1) := by decide +kernel
theorem dX12_restore_52 : decode mX12_restore.cd 52 = .ok (.getfield 124, 3) := by decide +kernel
theorem dX12_restore_55 : decode mX12_restore.cd 55 = .ok (.aload_n 0, 1) := by decide +kernel
theorem dX12_restore_56 : decode mX12_restore.cd 56 = .ok (.getfield 74, 3) := by decide +kernel
theorem dX12_restore_59 : decode mX12_restore.cd 59 = .ok (.invokevirtual 285, 3) := by decide +kernel
theorem dX12_restore_62 : decode mX12_restore.cd 62 = .ok (.aload_n 0, 1) := by decide +kernel
theorem dX12_restore_63 : decode mX12_restore.cd 63 = .ok (.aload_n 0, 1) := by decide +kernel
theorem dX12_restore_64 : decode mX12_restore.cd 64 = .ok (.getfield 127, 3) := by decide +kernel
theorem dX12_restore_67 : decode mX12_restore.cd 67 = .ok (.aload_n 0, 1) := by decide +kernel
theorem dX12_restore_68 : decode mX12_restore.cd 68 = .ok (.getfield 95, 3) := by decide +kernel
theorem dX12_restore_71 : decode mX12_restore.cd 71 = .ok (.invokevirtual 285, 3) := by decide +kernel
theorem dX12_restore_74 : decode mX12_restore.cd 74 = .ok (.aload_n 0, 1) := by decide +kernel
theorem dX12_restore_75 : decode mX12_restore.cd 75 = .ok (.aload_n 0, 1) := by decide +kernel
theorem dX12_restore_76 : decode mX12_restore.cd 76 = .ok (.getfield 130, 3) := by decide +kernel
theorem dX12_restore_79 : decode mX12_restore.cd 79 = .ok (.aload_n 0, 1) := by decide +kernel
theorem dX12_restore_80 : decode mX12_restore.cd 80 = .ok (.getfield 92, 3) := by decide +kernel
theorem dX12_restore_83 : decode mX12_restore.cd 83 = .ok (.invokevirtual 285, 3) := by decide +kernel
theorem dX12_restore_86 : decode mX12_restore.cd 86 = .ok (.aload_n 0, 1) := by decide +kernel
theorem dX12_restore_87 : decode mX12_restore.cd 87 = .ok (.aload_n 0, 1) := by decide +kernel
theorem dX12_restore_88 : decode mX12_restore.cd 88 = .ok (.getfield 133, 3) := by decide +kernel
theorem dX12_restore_91 : decode mX12_restore.cd 91 = .ok (.aload_n 0, 1) := by decide +kernel
theorem dX12_restore_92 : decode mX12_restore.cd 92 = .ok (.getfield 108, 3) := by decide +kernel
theorem dX12_restore_95 : decode mX12_restore.cd 95 = .ok (.invokevirtual 285, 3) := by decide +kernel
theorem dX12_restore_98 : decode mX12_restore.cd 98 = .ok (.iconst 1, 1) := by decide +kernel
theorem dX12_restore_99 : decode mX12_restore.cd 99 = .ok (.ireturn, 1) := by decide +kernel
theorem bX12_restore_0 {fr M1 M2 b1 b2 : Nat} {Q : RS → Nat → AH → Prop} {h : AH}  (r1 : -2147483648 ≤ h 98 78 ∧ h 98 78 < 2147483648 := by omega) (kt : ¬ h 98 78 = 0 → Wp mX12_restore (kR fr M1 M2) Q (b1, b2) 14 [zR 98] [] 137 (up h 98 0 0)) (kf : h 98 78 = 0 → Wp mX12_restore (kR fr M1 M2) Q (b1, b2) 12 [zR 98] [] 137 (up h 98 0 0)) : Wp mX12_restore (kR fr M1 M2) Q (b1, b2) 0 [zR 98] [] 137 h := by
  refine s_aload_n (x := 98) dX12_restore_0 rfl ?_
  refine s_iconst dX12_restore_1 ?_
  refine s_put (c := 98) dX12_restore_2 lX12_136 e98 ?_
  refine s_aload_n (x := 98) dX12_restore_5 rfl ?_
  refine s_get (c := 98) dX12_restore_6 lX12_298 e98 (by decide) ?_
  exact s_if_ne (tgt := 14) dX12_restore_9 (by decide) r1 kt kf
theorem bX12_restore_12 {fr M1 M2 b1 b2 : Nat} {Q : RS → Nat → AH → Prop} {h : AH} {x0 : AV}   (hq : Q (.inl (some (zI 0))) 137 h) : Wp mX12_restore (kR fr M1 M2) Q (b1, b2) 12 [x0] [] 137 h := by
  refine s_fgt (fgt_n _ fgt_0) ?_
  refine s_iconst dX12_restore_12 ?_
  exact s_ireturn dX12_restore_13 ⟨.boolean, rfl, by decide⟩ hq (fun z => by cases z)
theorem bX12_restore_14 {fr M1 M2 b1 b2 : Nat} {Q : RS → Nat → AH → Prop} {h : AH} {R : AH → Prop}   (hS : Sp mX12_copies true (fr - 1) 0 0 [zR 98, zR 132, zR 116] 137 (up (up (up h 98 50 (h 98 79)) 98 68 (h 98 80)) 98 66 (h 98 81)) (rV R)) (hf : 1 ≤ fr := by omega) (kk : ∀ h' : AH, R h' → Wp mX12_restore (kR fr M1 M2) Q (b1, b2) 50 [zR 98] [] 137 h') : Wp mX12_restore (kR fr M1 M2) Q (b1, b2) 14 [zR 98] [] 137 h := by
  refine s_aload_n (x := 98) dX12_restore_14 rfl ?_
  refine s_aload_n (x := 98) dX12_restore_15 rfl ?_
  refine s_get (c := 98) dX12_restore_16 lX12_458 e98 (by decide) ?_
  refine s_put (c := 98) dX12_restore_19 lX12_289 e98 ?_
  refine s_aload_n (x := 98) dX12_restore_22 rfl ?_
  refine s_aload_n (x := 98) dX12_restore_23 rfl ?_
  refine s_get (c := 98) dX12_restore_24 lX12_461 e98 (by decide) ?_
  refine s_put (c := 98) dX12_restore_27 lX12_292 e98 ?_
  refine s_aload_n (x := 98) dX12_restore_30 rfl ?_
  refine s_aload_n (x := 98) dX12_restore_31 rfl ?_
  refine s_get (c := 98) dX12_restore_32 lX12_464 e98 (by decide) ?_
  refine s_put (c := 98) dX12_restore_35 lX12_295 e98 ?_
  refine s_aload_n (x := 98) dX12_restore_38 rfl ?_
  refine s_aload_n (x := 98) dX12_restore_39 rfl ?_
  refine s_getFd (c := 98) (d := 132) dX12_restore_40 lX12_121 e98 (Or.inl rfl) (by decide) (by decide) ?_
  refine s_aload_n (x := 98) dX12_restore_43 rfl ?_
  refine s_getFd (c := 98) (d := 116) dX12_restore_44 lX12_71 e98 (Or.inl rfl) (by decide) (by decide) ?_
  exact s_callV (as := [zR 132, zR 116]) (st := []) (o := 98) dX12_restore_47 kX12_285 rfl ⟨12, 87, TX12, e98, rfl, by decide⟩ rfl rfl (Nat.le_of_ble_eq_true rfl) hS (show fr - 1 + 1 ≤ fr by omega) (Nat.zero_le _) (Nat.zero_le _) (fun v n' h' hP _ => by obtain ⟨e, rfl, hR⟩ := hP; cases e; exact kk h' hR) (fun E n' h' _ z => (rV_nt _ _ _ z).elim)
theorem bX12_restore_50 {fr M1 M2 b1 b2 : Nat} {Q : RS → Nat → AH → Prop} {h : AH} {R : AH → Prop}   (hS : Sp mX12_copies true (fr - 1) 0 0 [zR 98, zR 133, zR 117] 137 h (rV R)) (hf : 1 ≤ fr := by omega) (kk : ∀ h' : AH, R h' → Wp mX12_restore (kR fr M1 M2) Q (b1, b2) 62 [zR 98] [] 137 h') : Wp mX12_restore (kR fr M1 M2) Q (b1, b2) 50 [zR 98] [] 137 h := by
  refine s_aload_n (x := 98) dX12_restore_50 rfl ?_
  refine s_aload_n (x := 98) dX12_restore_51 rfl ?_
  refine s_getFd (c := 98) (d := 133) dX12_restore_52 lX12_124 e98 (Or.inl rfl) (by decide) (by decide) ?_
  refine s_aload_n (x := 98) dX12_restore_55 rfl ?_
  refine s_getFd (c := 98) (d := 117) dX12_restore_56 lX12_74 e98 (Or.inl rfl) (by decide) (by decide) ?_
  exact s_callV (as := [zR 133, zR 117]) (st := []) (o := 98) dX12_restore_59 kX12_285 rfl ⟨12, 87, TX12, e98, rfl, by decide⟩ rfl rfl (Nat.le_of_ble_eq_true rfl) hS (show fr - 1 + 1 ≤ fr by omega) (Nat.zero_le _) (Nat.zero_le _) (fun v n' h' hP _ => by obtain ⟨e, rfl, hR⟩ := hP; cases e; exact kk h' hR) (fun E n' h' _ z => (rV_nt _ _ _ z).elim)
theorem bX12_restore_62 {fr M1 M2 b1 b2 : Nat} {Q : RS → Nat → AH → Prop} {h : AH} {R : AH → Prop}   (hS : Sp mX12_copies true (fr - 1) 0 0 [zR 98, zR 134, zR 124] 137 h (rV R)) (hf : 1 ≤ fr := by omega) (kk : ∀ h' : AH, R h' → Wp mX12_restore (kR fr M1 M2) Q (b1, b2) 74 [zR 98] [] 137 h') : Wp mX12_restore (kR fr M1 M2) Q (b1, b2) 62 [zR 98] [] 137 h := by
  refine s_aload_n (x := 98) dX12_restore_62 rfl ?_
  refine s_aload_n (x := 98) dX12_restore_63 rfl ?_
  refine s_getFd (c := 98) (d := 134) dX12_restore_64 lX12_127 e98 (Or.inl rfl) (by decide) (by decide) ?_
  refine s_aload_n (x := 98) dX12_restore_67 rfl ?_
  refine s_getFd (c := 98) (d := 124) dX12_restore_68 lX12_95 e98 (Or.inl rfl) (by decide) (by decide) ?_
  exact s_callV (as := [zR 134, zR 124]) (st := []) (o := 98) dX12_restore_71 kX12_285 rfl ⟨12, 87, TX12, e98, rfl, by decide⟩ rfl rfl (Nat.le_of_ble_eq_true rfl) hS (show fr - 1 + 1 ≤ fr by omega) (Nat.zero_le _) (Nat.zero_le _) (fun v n' h' hP _ => by obtain ⟨e, rfl, hR⟩ := hP; cases e; exact kk h' hR) (fun E n' h' _ z => (rV_nt _ _ _ z).elim)
theorem bX12_restore_74 {fr M1 M2 b1 b2 : Nat} {Q : RS → Nat → AH → Prop} {h : AH} {R : AH → Prop}   (hS : Sp mX12_copies true (fr - 1) 0 0 [zR 98, zR 135, zR 123] 137 h (rV R)) (hf : 1 ≤ fr := by omega) (kk : ∀ h' : AH, R h' → Wp mX12_restore (kR fr M1 M2) Q (b1, b2) 86 [zR 98] [] 137 h') : Wp mX12_restore (kR fr M1 M2) Q (b1, b2) 74 [zR 98] [] 137 h := by
  refine s_aload_n (x := 98) dX12_restore_74 rfl ?_
  refine s_aload_n (x := 98) dX12_restore_75 rfl ?_
  refine s_getFd (c := 98) (d := 135) dX12_restore_76 lX12_130 e98 (Or.inl rfl) (by decide) (by decide) ?_
  refine s_aload_n (x := 98) dX12_restore_79 rfl ?_
  refine s_getFd (c := 98) (d := 123) dX12_restore_80 lX12_92 e98 (Or.inl rfl) (by decide) (by decide) ?_
  exact s_callV (as := [zR 135, zR 123]) (st := []) (o := 98) dX12_restore_83 kX12_285 rfl ⟨12, 87, TX12, e98, rfl, by decide⟩ rfl rfl (Nat.le_of_ble_eq_true rfl) hS (show fr - 1 + 1 ≤ fr by omega) (Nat.zero_le _) (Nat.zero_le _) (fun v n' h' hP _ => by obtain ⟨e, rfl, hR⟩ := hP; cases e; exact kk h' hR) (fun E n' h' _ z => (rV_nt _ _ _ z).elim)
theorem bX12_restore_86 {fr M1 M2 b1 b2 : Nat} {Q : RS → Nat → AH → Prop} {h : AH} {R : AH → Prop}   (hS : Sp mX12_copies true (fr - 1) 0 0 [zR 98, zR 136, zR 128] 137 h (rV R)) (hf : 1 ≤ fr := by omega) (kk : ∀ h' : AH, R h' → Wp mX12_restore (kR fr M1 M2) Q (b1, b2) 98 [zR 98] [] 137 h') : Wp mX12_restore (kR fr M1 M2) Q (b1, b2) 86 [zR 98] [] 137 h := by
  refine s_aload_n (x := 98) dX12_restore_86 rfl ?_
  refine s_aload_n (x := 98) dX12_restore_87 rfl ?_
  refine s_getFd (c := 98) (d := 136) dX12_restore_88 lX12_133 e98 (Or.inl rfl) (by decide) (by decide) ?_
  refine s_aload_n (x := 98) dX12_restore_91 rfl ?_
  refine s_getFd (c := 98) (d := 128) dX12_restore_92 lX12_108 e98 (Or.inl rfl) (by decide) (by decide) ?_
  exact s_callV (as := [zR 136, zR 128]) (st := []) (o := 98) dX12_restore_95 kX12_285 rfl ⟨12, 87, TX12, e98, rfl, by decide⟩ rfl rfl (Nat.le_of_ble_eq_true rfl) hS (show fr - 1 + 1 ≤ fr by omega) (Nat.zero_le _) (Nat.zero_le _) (fun v n' h' hP _ => by obtain ⟨e, rfl, hR⟩ := hP; cases e; exact kk h' hR) (fun E n' h' _ z => (rV_nt _ _ _ z).elim)
theorem bX12_restore_98 {fr M1 M2 b1 b2 : Nat} {Q : RS → Nat → AH → Prop} {h : AH} {x0 : AV}   (hq : Q (.inl (some (zI 1))) 137 h) : Wp mX12_restore (kR fr M1 M2) Q (b1, b2) 98 [x0] [] 137 h := by
  refine s_fgt (fgt_n _ fgt_0) ?_
  refine s_iconst dX12_restore_98 ?_
  exact s_ireturn dX12_restore_99 ⟨.boolean, rfl, by decide⟩ hq (fun z => by cases z)
