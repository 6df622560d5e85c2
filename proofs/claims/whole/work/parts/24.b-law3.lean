theorem bL_law_1015 {L b1 b2 : Nat} {xs : Nat → Int} {Q : RS → Nat → AH → Prop} {h : AH} (hL : L < 4000 := by omega) {l4 l5 l6 : Int}  (r1 : -2147483648 ≤ l5 ∧ l5 < 2147483648 := by omega) (kt : ¬ l5 = 0 → Wp mL_law (kL L xs) Q (b1, b2) 1032 [zR (-100), zR 1, zR 98, zR 137, zI l4, zI l5, zI l6] [] 137 h) (kf : l5 = 0 → Wp mL_law (kL L xs) Q (b1, b2) 1020 [zR (-100), zR 1, zR 98, zR 137, zI l4, zI l5, zI l6] [] 137 h) : Wp mL_law (kL L xs) Q (b1, b2) 1015 [zR (-100), zR 1, zR 98, zR 137, zI l4, zI l5, zI l6] [] 137 h := by
  refine s_iload (x := l5) dL_law_1015 rfl ?_
  exact s_if_ne (tgt := 1032) dL_law_1017 (by decide) r1 kt kf
theorem bL_law_1020 {L b1 b2 : Nat} {xs : Nat → Int} {Q : RS → Nat → AH → Prop} {h : AH} (hL : L < 4000 := by omega) {l4 l6 : Int} {x5 : AV}  (r1 : -2147483648 ≤ (lg_cmp (Int64.ofInt (h 137 0)) (Int64.ofInt (i2l l6))).toInt ∧ (lg_cmp (Int64.ofInt (h 137 0)) (Int64.ofInt (i2l l6))).toInt < 2147483648 := by omega) (kt : (lg_cmp (Int64.ofInt (h 137 0)) (Int64.ofInt (i2l l6))).toInt = 0 → Wp mL_law (kL L xs) Q (b1, b2) 1032 [zR (-100), zR 1, zR 98, zR 137, zI l4, none, zI l6] [] 137 h) (kf : ¬ (lg_cmp (Int64.ofInt (h 137 0)) (Int64.ofInt (i2l l6))).toInt = 0 → Wp mL_law (kL L xs) Q (b1, b2) 1030 [zR (-100), zR 1, zR 98, zR 137, zI l4, none, zI l6] [] 137 h) : Wp mL_law (kL L xs) Q (b1, b2) 1020 [zR (-100), zR 1, zR 98, zR 137, zI l4, x5, zI l6] [] 137 h := by
  refine s_fgt (fgt_c (fgt_c (fgt_c (fgt_c (fgt_c (fgt_n _ (fgt_c fgt_0))))))) ?_
  refine s_aload_n (x := 137) dL_law_1020 rfl ?_
  refine s_iconst dL_law_1021 ?_
  refine s_lald (c := 137) (i := 0) dL_law_1022 e137 (by decide) (by decide) ?_
  refine s_iload (x := l6) dL_law_1023 rfl ?_
  refine s_i2l dL_law_1025 ?_
  refine s_lcmp dL_law_1026 ?_
  exact s_if_eq (tgt := 1032) dL_law_1027 (by decide) r1 kt kf
theorem bL_law_1030 {L b1 b2 : Nat} {xs : Nat → Int} {Q : RS → Nat → AH → Prop} {h : AH} (hL : L < 4000 := by omega) {x0 x1 x2 x3 x4 x5 x6 : AV}   (hq : Q (.inl (some (zI 0))) 137 h) : Wp mL_law (kL L xs) Q (b1, b2) 1030 [x0, x1, x2, x3, x4, x5, x6] [] 137 h := by
  refine s_fgt (fgt_n _ (fgt_n _ (fgt_n _ (fgt_n _ (fgt_n _ (fgt_n _ (fgt_n _ fgt_0))))))) ?_
  refine s_iconst dL_law_1030 ?_
  exact s_ireturn dL_law_1031 ⟨.boolean, rfl, by decide⟩ hq (fun z => by cases z)
theorem bL_law_1032 {L b1 b2 : Nat} {xs : Nat → Int} {Q : RS → Nat → AH → Prop} {h : AH} (hL : L < 4000 := by omega) {l4 : Int} {x5 x6 : AV}   (kk : Wp mL_law (kL L xs) Q (b1, b2) 1771 [zR (-100), zR 1, zR 98, zR 137, zI l4, none, none] [] 137 h) : Wp mL_law (kL L xs) Q (b1, b2) 1032 [zR (-100), zR 1, zR 98, zR 137, zI l4, x5, x6] [] 137 h := by
  refine s_fgt (fgt_c (fgt_c (fgt_c (fgt_c (fgt_c (fgt_n _ (fgt_n _ fgt_0))))))) ?_
  exact s_goto (tgt := 1771) dL_law_1032 (by decide) kk
theorem bL_law_1035 {L b1 b2 : Nat} {xs : Nat → Int} {Q : RS → Nat → AH → Prop} {h : AH} (hL : L < 4000 := by omega) {l4 : Int} {x5 x6 : AV} {R : Int → AH → Prop}  (r1 : 0 ≤ l4 + 1 ∧ l4 + 1 < (L : Int) := by omega) (hS : Sp mL_lasts true (1000 - 1) 8 48 [zR 1, zI (xs (l4 + 1).toNat), zR 137] 137 h (rI R)) (hf : 1 ≤ 1000 := by omega) (g1 : 8 ≤ b1 := by omega) (g2 : 48 ≤ b2 := by omega) (kk : ∀ (x : Int) (h' : AH), R x h' → Wp mL_law (kL L xs) Q (b1 - 8, b2 - 48) 1046 [zR (-100), zR 1, zR 98, zR 137, zI l4, none, none] [zI x] 137 h') : Wp mL_law (kL L xs) Q (b1, b2) 1035 [zR (-100), zR 1, zR 98, zR 137, zI l4, x5, x6] [] 137 h := by
  refine s_fgt (fgt_c (fgt_c (fgt_c (fgt_c (fgt_c (fgt_n _ (fgt_n _ fgt_0))))))) ?_
  refine s_aload_n (x := 1) dL_law_1035 rfl ?_
  refine s_aload_n (x := (-100)) dL_law_1036 rfl ?_
  refine s_iload (x := l4) dL_law_1037 rfl ?_
  refine s_iconst dL_law_1039 ?_
  refine s_iadd dL_law_1040 ?_
  refine s_sld (i := l4 + 1) rfl dL_law_1041 r1.1 r1.2 hL ?_
  refine s_aload_n (x := 137) dL_law_1042 rfl ?_
  exact s_callS (as := [zR 1, zI (xs (l4 + 1).toNat), zR 137]) (st := []) dL_law_1043 kL_141 rfl rfl (Nat.le_of_ble_eq_true rfl) hS (show 1000 - 1 + 1 ≤ 1000 by omega) g1 g2 (fun v n' h' hP _ => by obtain ⟨x, e, rfl, hR⟩ := hP; cases e; exact kk x h' hR) (fun E n' h' _ z => (rI_nt _ _ _ z).elim)
theorem bL_law_1046 {L b1 b2 : Nat} {xs : Nat → Int} {Q : RS → Nat → AH → Prop} {h : AH} (hL : L < 4000 := by omega) {l4 s0 : Int} {x5 x6 : AV} {R : Int → AH → Prop}  (r1 : 0 ≤ l4 + 1 ∧ l4 + 1 < (L : Int) := by omega) (hS : Sp mX12_lasts true (1000 - 1) 0 0 [zR 98, zI (xs (l4 + 1).toNat)] 137 h (rI R)) (hf : 1 ≤ 1000 := by omega) (kk : ∀ (x : Int) (h' : AH), R x h' → Wp mL_law (kL L xs) Q (b1, b2) 1058 [zR (-100), zR 1, zR 98, zR 137, zI l4, zI s0, none] [zI x] 137 h') : Wp mL_law (kL L xs) Q (b1, b2) 1046 [zR (-100), zR 1, zR 98, zR 137, zI l4, x5, x6] [zI s0] 137 h := by
  refine s_fgt (fgt_c (fgt_c (fgt_c (fgt_c (fgt_c (fgt_n _ (fgt_n _ fgt_0))))))) ?_
  refine s_istore dL_law_1046 rfl (by decide) ?_
  refine s_aload_n (x := 98) dL_law_1048 rfl ?_
  refine s_aload_n (x := (-100)) dL_law_1049 rfl ?_
  refine s_iload (x := l4) dL_law_1050 rfl ?_
  refine s_iconst dL_law_1052 ?_
  refine s_iadd dL_law_1053 ?_
  refine s_sld (i := l4 + 1) rfl dL_law_1054 r1.1 r1.2 hL ?_
  exact s_callV (as := [zI (xs (l4 + 1).toNat)]) (st := []) (o := 98) dL_law_1055 kL_143 rfl ⟨12, 87, TX12, e98, rfl, by decide⟩ rfl rfl (Nat.le_of_ble_eq_true rfl) hS (show 1000 - 1 + 1 ≤ 1000 by omega) (Nat.zero_le _) (Nat.zero_le _) (fun v n' h' hP _ => by obtain ⟨x, e, rfl, hR⟩ := hP; cases e; exact kk x h' hR) (fun E n' h' _ z => (rI_nt _ _ _ z).elim)
theorem bL_law_1058 {L b1 b2 : Nat} {xs : Nat → Int} {Q : RS → Nat → AH → Prop} {h : AH} (hL : L < 4000 := by omega) {l4 l5 s0 : Int} {x6 : AV} {R : Int → AH → Prop}   (hS : Sp mX12_thrown true (1000 - 1) 0 0 [zR 98] 137 h (rI R)) (hf : 1 ≤ 1000 := by omega) (kk : ∀ (x : Int) (h' : AH), R x h' → Wp mL_law (kL L xs) Q (b1, b2) 1064 [zR (-100), zR 1, zR 98, zR 137, zI l4, zI l5, zI s0] [zI x] 137 h') : Wp mL_law (kL L xs) Q (b1, b2) 1058 [zR (-100), zR 1, zR 98, zR 137, zI l4, zI l5, x6] [zI s0] 137 h := by
  refine s_fgt (fgt_c (fgt_c (fgt_c (fgt_c (fgt_c (fgt_c (fgt_n _ fgt_0))))))) ?_
  refine s_istore dL_law_1058 rfl (by decide) ?_
  refine s_aload_n (x := 98) dL_law_1060 rfl ?_
  exact s_callV (as := []) (st := []) (o := 98) dL_law_1061 kL_96 rfl ⟨12, 87, TX12, e98, rfl, by decide⟩ rfl rfl (Nat.le_of_ble_eq_true rfl) hS (show 1000 - 1 + 1 ≤ 1000 by omega) (Nat.zero_le _) (Nat.zero_le _) (fun v n' h' hP _ => by obtain ⟨x, e, rfl, hR⟩ := hP; cases e; exact kk x h' hR) (fun E n' h' _ z => (rI_nt _ _ _ z).elim)
theorem bL_law_1064 {L b1 b2 : Nat} {xs : Nat → Int} {Q : RS → Nat → AH → Prop} {h : AH} (hL : L < 4000 := by omega) {l4 l5 l6 s0 : Int}  (r1 : -2147483648 ≤ s0 ∧ s0 < 2147483648 := by omega) (r2 : -2147483648 ≤ l5 ∧ l5 < 2147483648 := by omega) (kt : s0 = l5 → Wp mL_law (kL L xs) Q (b1, b2) 1071 [zR (-100), zR 1, zR 98, zR 137, zI l4, zI l5, zI l6] [] 137 h) (kf : ¬ s0 = l5 → Wp mL_law (kL L xs) Q (b1, b2) 1069 [zR (-100), zR 1, zR 98, zR 137, zI l4, zI l5, zI l6] [] 137 h) : Wp mL_law (kL L xs) Q (b1, b2) 1064 [zR (-100), zR 1, zR 98, zR 137, zI l4, zI l5, zI l6] [zI s0] 137 h := by
  refine s_iload (x := l5) dL_law_1064 rfl ?_
  exact s_icmp_eq (tgt := 1071) dL_law_1066 (by decide) r1 r2 kt kf
theorem bL_law_1069 {L b1 b2 : Nat} {xs : Nat → Int} {Q : RS → Nat → AH → Prop} {h : AH} (hL : L < 4000 := by omega) {x0 x1 x2 x3 x4 x5 x6 : AV}   (hq : Q (.inl (some (zI 0))) 137 h) : Wp mL_law (kL L xs) Q (b1, b2) 1069 [x0, x1, x2, x3, x4, x5, x6] [] 137 h := by
  refine s_fgt (fgt_n _ (fgt_n _ (fgt_n _ (fgt_n _ (fgt_n _ (fgt_n _ (fgt_n _ fgt_0))))))) ?_
  refine s_iconst dL_law_1069 ?_
  exact s_ireturn dL_law_1070 ⟨.boolean, rfl, by decide⟩ hq (fun z => by cases z)
theorem bL_law_1071 {L b1 b2 : Nat} {xs : Nat → Int} {Q : RS → Nat → AH → Prop} {h : AH} (hL : L < 4000 := by omega) {l4 l5 l6 : Int}  (r1 : -2147483648 ≤ l5 ∧ l5 < 2147483648 := by omega) (kt : ¬ l5 = 0 → Wp mL_law (kL L xs) Q (b1, b2) 1088 [zR (-100), zR 1, zR 98, zR 137, zI l4, zI l5, zI l6] [] 137 h) (kf : l5 = 0 → Wp mL_law (kL L xs) Q (b1, b2) 1076 [zR (-100), zR 1, zR 98, zR 137, zI l4, zI l5, zI l6] [] 137 h) : Wp mL_law (kL L xs) Q (b1, b2) 1071 [zR (-100), zR 1, zR 98, zR 137, zI l4, zI l5, zI l6] [] 137 h := by
  refine s_iload (x := l5) dL_law_1071 rfl ?_
  exact s_if_ne (tgt := 1088) dL_law_1073 (by decide) r1 kt kf
theorem bL_law_1076 {L b1 b2 : Nat} {xs : Nat → Int} {Q : RS → Nat → AH → Prop} {h : AH} (hL : L < 4000 := by omega) {l4 l6 : Int} {x5 : AV}  (r1 : -2147483648 ≤ (lg_cmp (Int64.ofInt (h 137 0)) (Int64.ofInt (i2l l6))).toInt ∧ (lg_cmp (Int64.ofInt (h 137 0)) (Int64.ofInt (i2l l6))).toInt < 2147483648 := by omega) (kt : (lg_cmp (Int64.ofInt (h 137 0)) (Int64.ofInt (i2l l6))).toInt = 0 → Wp mL_law (kL L xs) Q (b1, b2) 1088 [zR (-100), zR 1, zR 98, zR 137, zI l4, none, zI l6] [] 137 h) (kf : ¬ (lg_cmp (Int64.ofInt (h 137 0)) (Int64.ofInt (i2l l6))).toInt = 0 → Wp mL_law (kL L xs) Q (b1, b2) 1086 [zR (-100), zR 1, zR 98, zR 137, zI l4, none, zI l6] [] 137 h) : Wp mL_law (kL L xs) Q (b1, b2) 1076 [zR (-100), zR 1, zR 98, zR 137, zI l4, x5, zI l6] [] 137 h := by
  refine s_fgt (fgt_c (fgt_c (fgt_c (fgt_c (fgt_c (fgt_n _ (fgt_c fgt_0))))))) ?_
  refine s_aload_n (x := 137) dL_law_1076 rfl ?_
  refine s_iconst dL_law_1077 ?_
  refine s_lald (c := 137) (i := 0) dL_law_1078 e137 (by decide) (by decide) ?_
  refine s_iload (x := l6) dL_law_1079 rfl ?_
  refine s_i2l dL_law_1081 ?_
  refine s_lcmp dL_law_1082 ?_
  exact s_if_eq (tgt := 1088) dL_law_1083 (by decide) r1 kt kf
theorem bL_law_1086 {L b1 b2 : Nat} {xs : Nat → Int} {Q : RS → Nat → AH → Prop} {h : AH} (hL : L < 4000 := by omega) {x0 x1 x2 x3 x4 x5 x6 : AV}   (hq : Q (.inl (some (zI 0))) 137 h) : Wp mL_law (kL L xs) Q (b1, b2) 1086 [x0, x1, x2, x3, x4, x5, x6] [] 137 h := by
  refine s_fgt (fgt_n _ (fgt_n _ (fgt_n _ (fgt_n _ (fgt_n _ (fgt_n _ (fgt_n _ fgt_0))))))) ?_
  refine s_iconst dL_law_1086 ?_
  exact s_ireturn dL_law_1087 ⟨.boolean, rfl, by decide⟩ hq (fun z => by cases z)
theorem bL_law_1088 {L b1 b2 : Nat} {xs : Nat → Int} {Q : RS → Nat → AH → Prop} {h : AH} (hL : L < 4000 := by omega) {l4 : Int} {x5 x6 : AV}   (kk : Wp mL_law (kL L xs) Q (b1, b2) 1771 [zR (-100), zR 1, zR 98, zR 137, zI l4, none, none] [] 137 h) : Wp mL_law (kL L xs) Q (b1, b2) 1088 [zR (-100), zR 1, zR 98, zR 137, zI l4, x5, x6] [] 137 h := by
  refine s_fgt (fgt_c (fgt_c (fgt_c (fgt_c (fgt_c (fgt_n _ (fgt_n _ fgt_0))))))) ?_
  exact s_goto (tgt := 1771) dL_law_1088 (by decide) kk
theorem bL_law_1091 {L b1 b2 : Nat} {xs : Nat → Int} {Q : RS → Nat → AH → Prop} {h : AH} (hL : L < 4000 := by omega) {l4 : Int} {x5 x6 : AV} {R : Int → AH → Prop}  (r1 : 0 ≤ l4 + 1 ∧ l4 + 1 < (L : Int) := by omega) (r2 : 0 ≤ l4 + 2 ∧ l4 + 2 < (L : Int) := by omega) (hS : Sp mL_sing true (1000 - 1) 8 48 [zR 1, zI (xs (l4 + 1).toNat), zI (xs (l4 + 2).toNat), zR 137] 137 h (rI R)) (hf : 1 ≤ 1000 := by omega) (g1 : 8 ≤ b1 := by omega) (g2 : 48 ≤ b2 := by omega) (kk : ∀ (x : Int) (h' : AH), R x h' → Wp mL_law (kL L xs) Q (b1 - 8, b2 - 48) 1108 [zR (-100), zR 1, zR 98, zR 137, zI l4, none, none] [zI x] 137 h') : Wp mL_law (kL L xs) Q (b1, b2) 1091 [zR (-100), zR 1, zR 98, zR 137, zI l4, x5, x6] [] 137 h := by
  refine s_fgt (fgt_c (fgt_c (fgt_c (fgt_c (fgt_c (fgt_n _ (fgt_n _ fgt_0))))))) ?_
  refine s_aload_n (x := 1) dL_law_1091 rfl ?_
  refine s_aload_n (x := (-100)) dL_law_1092 rfl ?_
  refine s_iload (x := l4) dL_law_1093 rfl ?_
  refine s_iconst dL_law_1095 ?_
  refine s_iadd dL_law_1096 ?_
  refine s_sld (i := l4 + 1) rfl dL_law_1097 r1.1 r1.2 hL ?_
  refine s_aload_n (x := (-100)) dL_law_1098 rfl ?_
  refine s_iload (x := l4) dL_law_1099 rfl ?_
  refine s_iconst dL_law_1101 ?_
  refine s_iadd dL_law_1102 ?_
  refine s_sld (i := l4 + 2) rfl dL_law_1103 r2.1 r2.2 hL ?_
  refine s_aload_n (x := 137) dL_law_1104 rfl ?_
  exact s_callS (as := [zR 1, zI (xs (l4 + 1).toNat), zI (xs (l4 + 2).toNat), zR 137]) (st := []) dL_law_1105 kL_144 rfl rfl (Nat.le_of_ble_eq_true rfl) hS (show 1000 - 1 + 1 ≤ 1000 by omega) g1 g2 (fun v n' h' hP _ => by obtain ⟨x, e, rfl, hR⟩ := hP; cases e; exact kk x h' hR) (fun E n' h' _ z => (rI_nt _ _ _ z).elim)
theorem bL_law_1108 {L b1 b2 : Nat} {xs : Nat → Int} {Q : RS → Nat → AH → Prop} {h : AH} (hL : L < 4000 := by omega) {l4 s0 : Int} {x5 x6 : AV} {R : Int → AH → Prop}  (r1 : 0 ≤ l4 + 1 ∧ l4 + 1 < (L : Int) := by omega) (r2 : 0 ≤ l4 + 2 ∧ l4 + 2 < (L : Int) := by omega) (hS : Sp mX12_sing true (1000 - 1) 0 0 [zR 98, zI (xs (l4 + 1).toNat), zI (xs (l4 + 2).toNat)] 137 h (rI R)) (hf : 1 ≤ 1000 := by omega) (kk : ∀ (x : Int) (h' : AH), R x h' → Wp mL_law (kL L xs) Q (b1, b2) 1126 [zR (-100), zR 1, zR 98, zR 137, zI l4, zI s0, none] [zI x] 137 h') : Wp mL_law (kL L xs) Q (b1, b2) 1108 [zR (-100), zR 1, zR 98, zR 137, zI l4, x5, x6] [zI s0] 137 h := by
  refine s_fgt (fgt_c (fgt_c (fgt_c (fgt_c (fgt_c (fgt_n _ (fgt_n _ fgt_0))))))) ?_
  refine s_istore dL_law_1108 rfl (by decide) ?_
  refine s_aload_n (x := 98) dL_law_1110 rfl ?_
  refine s_aload_n (x := (-100)) dL_law_1111 rfl ?_
  refine s_iload (x := l4) dL_law_1112 rfl ?_
  refine s_iconst dL_law_1114 ?_
  refine s_iadd dL_law_1115 ?_
  refine s_sld (i := l4 + 1) rfl dL_law_1116 r1.1 r1.2 hL ?_
  refine s_aload_n (x := (-100)) dL_law_1117 rfl ?_
  refine s_iload (x := l4) dL_law_1118 rfl ?_
  refine s_iconst dL_law_1120 ?_
  refine s_iadd dL_law_1121 ?_
  refine s_sld (i := l4 + 2) rfl dL_law_1122 r2.1 r2.2 hL ?_
  exact s_callV (as := [zI (xs (l4 + 1).toNat), zI (xs (l4 + 2).toNat)]) (st := []) (o := 98) dL_law_1123 kL_146 rfl ⟨12, 87, TX12, e98, rfl, by decide⟩ rfl rfl (Nat.le_of_ble_eq_true rfl) hS (show 1000 - 1 + 1 ≤ 1000 by omega) (Nat.zero_le _) (Nat.zero_le _) (fun v n' h' hP _ => by obtain ⟨x, e, rfl, hR⟩ := hP; cases e; exact kk x h' hR) (fun E n' h' _ z => (rI_nt _ _ _ z).elim)
theorem bL_law_1126 {L b1 b2 : Nat} {xs : Nat → Int} {Q : RS → Nat → AH → Prop} {h : AH} (hL : L < 4000 := by omega) {l4 l5 s0 : Int} {x6 : AV} {R : Int → AH → Prop}   (hS : Sp mX12_thrown true (1000 - 1) 0 0 [zR 98] 137 h (rI R)) (hf : 1 ≤ 1000 := by omega) (kk : ∀ (x : Int) (h' : AH), R x h' → Wp mL_law (kL L xs) Q (b1, b2) 1132 [zR (-100), zR 1, zR 98, zR 137, zI l4, zI l5, zI s0] [zI x] 137 h') : Wp mL_law (kL L xs) Q (b1, b2) 1126 [zR (-100), zR 1, zR 98, zR 137, zI l4, zI l5, x6] [zI s0] 137 h := by
  refine s_fgt (fgt_c (fgt_c (fgt_c (fgt_c (fgt_c (fgt_c (fgt_n _ fgt_0))))))) ?_
  refine s_istore dL_law_1126 rfl (by decide) ?_
  refine s_aload_n (x := 98) dL_law_1128 rfl ?_
  exact s_callV (as := []) (st := []) (o := 98) dL_law_1129 kL_96 rfl ⟨12, 87, TX12, e98, rfl, by decide⟩ rfl rfl (Nat.le_of_ble_eq_true rfl) hS (show 1000 - 1 + 1 ≤ 1000 by omega) (Nat.zero_le _) (Nat.zero_le _) (fun v n' h' hP _ => by obtain ⟨x, e, rfl, hR⟩ := hP; cases e; exact kk x h' hR) (fun E n' h' _ z => (rI_nt _ _ _ z).elim)
theorem bL_law_1132 {L b1 b2 : Nat} {xs : Nat → Int} {Q : RS → Nat → AH → Prop} {h : AH} (hL : L < 4000 := by omega) {l4 l5 l6 s0 : Int}  (r1 : -2147483648 ≤ s0 ∧ s0 < 2147483648 := by omega) (r2 : -2147483648 ≤ l5 ∧ l5 < 2147483648 := by omega) (kt : s0 = l5 → Wp mL_law (kL L xs) Q (b1, b2) 1139 [zR (-100), zR 1, zR 98, zR 137, zI l4, zI l5, zI l6] [] 137 h) (kf : ¬ s0 = l5 → Wp mL_law (kL L xs) Q (b1, b2) 1137 [zR (-100), zR 1, zR 98, zR 137, zI l4, zI l5, zI l6] [] 137 h) : Wp mL_law (kL L xs) Q (b1, b2) 1132 [zR (-100), zR 1, zR 98, zR 137, zI l4, zI l5, zI l6] [zI s0] 137 h := by
  refine s_iload (x := l5) dL_law_1132 rfl ?_
  exact s_icmp_eq (tgt := 1139) dL_law_1134 (by decide) r1 r2 kt kf
theorem bL_law_1137 {L b1 b2 : Nat} {xs : Nat → Int} {Q : RS → Nat → AH → Prop} {h : AH} (hL : L < 4000 := by omega) {x0 x1 x2 x3 x4 x5 x6 : AV}   (hq : Q (.inl (some (zI 0))) 137 h) : Wp mL_law (kL L xs) Q (b1, b2) 1137 [x0, x1, x2, x3, x4, x5, x6] [] 137 h := by
  refine s_fgt (fgt_n _ (fgt_n _ (fgt_n _ (fgt_n _ (fgt_n _ (fgt_n _ (fgt_n _ fgt_0))))))) ?_
  refine s_iconst dL_law_1137 ?_
  exact s_ireturn dL_law_1138 ⟨.boolean, rfl, by decide⟩ hq (fun z => by cases z)
theorem bL_law_1139 {L b1 b2 : Nat} {xs : Nat → Int} {Q : RS → Nat → AH → Prop} {h : AH} (hL : L < 4000 := by omega) {l4 l5 l6 : Int}  (r1 : -2147483648 ≤ l5 ∧ l5 < 2147483648 := by omega) (kt : ¬ l5 = 0 → Wp mL_law (kL L xs) Q (b1, b2) 1156 [zR (-100), zR 1, zR 98, zR 137, zI l4, zI l5, zI l6] [] 137 h) (kf : l5 = 0 → Wp mL_law (kL L xs) Q (b1, b2) 1144 [zR (-100), zR 1, zR 98, zR 137, zI l4, zI l5, zI l6] [] 137 h) : Wp mL_law (kL L xs) Q (b1, b2) 1139 [zR (-100), zR 1, zR 98, zR 137, zI l4, zI l5, zI l6] [] 137 h := by
  refine s_iload (x := l5) dL_law_1139 rfl ?_
  exact s_if_ne (tgt := 1156) dL_law_1141 (by decide) r1 kt kf
theorem bL_law_1144 {L b1 b2 : Nat} {xs : Nat → Int} {Q : RS → Nat → AH → Prop} {h : AH} (hL : L < 4000 := by omega) {l4 l6 : Int} {x5 : AV}  (r1 : -2147483648 ≤ (lg_cmp (Int64.ofInt (h 137 0)) (Int64.ofInt (i2l l6))).toInt ∧ (lg_cmp (Int64.ofInt (h 137 0)) (Int64.ofInt (i2l l6))).toInt < 2147483648 := by omega) (kt : (lg_cmp (Int64.ofInt (h 137 0)) (Int64.ofInt (i2l l6))).toInt = 0 → Wp mL_law (kL L xs) Q (b1, b2) 1156 [zR (-100), zR 1, zR 98, zR 137, zI l4, none, zI l6] [] 137 h) (kf : ¬ (lg_cmp (Int64.ofInt (h 137 0)) (Int64.ofInt (i2l l6))).toInt = 0 → Wp mL_law (kL L xs) Q (b1, b2) 1154 [zR (-100), zR 1, zR 98, zR 137, zI l4, none, zI l6] [] 137 h) : Wp mL_law (kL L xs) Q (b1, b2) 1144 [zR (-100), zR 1, zR 98, zR 137, zI l4, x5, zI l6] [] 137 h := by
  refine s_fgt (fgt_c (fgt_c (fgt_c (fgt_c (fgt_c (fgt_n _ (fgt_c fgt_0))))))) ?_
  refine s_aload_n (x := 137) dL_law_1144 rfl ?_
  refine s_iconst dL_law_1145 ?_
  refine s_lald (c := 137) (i := 0) dL_law_1146 e137 (by decide) (by decide) ?_
  refine s_iload (x := l6) dL_law_1147 rfl ?_
  refine s_i2l dL_law_1149 ?_
  refine s_lcmp dL_law_1150 ?_
  exact s_if_eq (tgt := 1156) dL_law_1151 (by decide) r1 kt kf
theorem bL_law_1154 {L b1 b2 : Nat} {xs : Nat → Int} {Q : RS → Nat → AH → Prop} {h : AH} (hL : L < 4000 := by omega) {x0 x1 x2 x3 x4 x5 x6 : AV}   (hq : Q (.inl (some (zI 0))) 137 h) : Wp mL_law (kL L xs) Q (b1, b2) 1154 [x0, x1, x2, x3, x4, x5, x6] [] 137 h := by
  refine s_fgt (fgt_n _ (fgt_n _ (fgt_n _ (fgt_n _ (fgt_n _ (fgt_n _ (fgt_n _ fgt_0))))))) ?_
  refine s_iconst dL_law_1154 ?_
  exact s_ireturn dL_law_1155 ⟨.boolean, rfl, by decide⟩ hq (fun z => by cases z)
theorem bL_law_1156 {L b1 b2 : Nat} {xs : Nat → Int} {Q : RS → Nat → AH → Prop} {h : AH} (hL : L < 4000 := by omega) {l4 : Int} {x5 x6 : AV}   (kk : Wp mL_law (kL L xs) Q (b1, b2) 1771 [zR (-100), zR 1, zR 98, zR 137, zI l4, none, none] [] 137 h) : Wp mL_law (kL L xs) Q (b1, b2) 1156 [zR (-100), zR 1, zR 98, zR 137, zI l4, x5, x6] [] 137 h := by
  refine s_fgt (fgt_c (fgt_c (fgt_c (fgt_c (fgt_c (fgt_n _ (fgt_n _ fgt_0))))))) ?_
  exact s_goto (tgt := 1771) dL_law_1156 (by decide) kk
theorem bL_law_1159 {L b1 b2 : Nat} {xs : Nat → Int} {Q : RS → Nat → AH → Prop} {h : AH} (hL : L < 4000 := by omega) {l4 : Int} {x5 x6 : AV} {R : Int → AH → Prop}  (r1 : 0 ≤ l4 + 1 ∧ l4 + 1 < (L : Int) := by omega) (hS : Sp mL_round true (1000 - 1) 8 48 [zR 1, zI (xs (l4 + 1).toNat), zR 137] 137 h (rI R)) (hf : 1 ≤ 1000 := by omega) (g1 : 8 ≤ b1 := by omega) (g2 : 48 ≤ b2 := by omega) (kk : ∀ (x : Int) (h' : AH), R x h' → Wp mL_law (kL L xs) Q (b1 - 8, b2 - 48) 1170 [zR (-100), zR 1, zR 98, zR 137, zI l4, none, none] [zI x] 137 h') : Wp mL_law (kL L xs) Q (b1, b2) 1159 [zR (-100), zR 1, zR 98, zR 137, zI l4, x5, x6] [] 137 h := by
  refine s_fgt (fgt_c (fgt_c (fgt_c (fgt_c (fgt_c (fgt_n _ (fgt_n _ fgt_0))))))) ?_
  refine s_aload_n (x := 1) dL_law_1159 rfl ?_
  refine s_aload_n (x := (-100)) dL_law_1160 rfl ?_
  refine s_iload (x := l4) dL_law_1161 rfl ?_
  refine s_iconst dL_law_1163 ?_
  refine s_iadd dL_law_1164 ?_
  refine s_sld (i := l4 + 1) rfl dL_law_1165 r1.1 r1.2 hL ?_
  refine s_aload_n (x := 137) dL_law_1166 rfl ?_
  exact s_callS (as := [zR 1, zI (xs (l4 + 1).toNat), zR 137]) (st := []) dL_law_1167 kL_147 rfl rfl (Nat.le_of_ble_eq_true rfl) hS (show 1000 - 1 + 1 ≤ 1000 by omega) g1 g2 (fun v n' h' hP _ => by obtain ⟨x, e, rfl, hR⟩ := hP; cases e; exact kk x h' hR) (fun E n' h' _ z => (rI_nt _ _ _ z).elim)
theorem bL_law_1170 {L b1 b2 : Nat} {xs : Nat → Int} {Q : RS → Nat → AH → Prop} {h : AH} (hL : L < 4000 := by omega) {l4 s0 : Int} {x5 x6 : AV} {R : Int → AH → Prop}  (r1 : 0 ≤ l4 + 1 ∧ l4 + 1 < (L : Int) := by omega) (hS : Sp mX12_round true (1000 - 1) 0 0 [zR 98, zI (xs (l4 + 1).toNat)] 137 h (rI R)) (hf : 1 ≤ 1000 := by omega) (kk : ∀ (x : Int) (h' : AH), R x h' → Wp mL_law (kL L xs) Q (b1, b2) 1182 [zR (-100), zR 1, zR 98, zR 137, zI l4, zI s0, none] [zI x] 137 h') : Wp mL_law (kL L xs) Q (b1, b2) 1170 [zR (-100), zR 1, zR 98, zR 137, zI l4, x5, x6] [zI s0] 137 h := by
  refine s_fgt (fgt_c (fgt_c (fgt_c (fgt_c (fgt_c (fgt_n _ (fgt_n _ fgt_0))))))) ?_
  refine s_istore dL_law_1170 rfl (by decide) ?_
  refine s_aload_n (x := 98) dL_law_1172 rfl ?_
  refine s_aload_n (x := (-100)) dL_law_1173 rfl ?_
  refine s_iload (x := l4) dL_law_1174 rfl ?_
  refine s_iconst dL_law_1176 ?_
  refine s_iadd dL_law_1177 ?_
  refine s_sld (i := l4 + 1) rfl dL_law_1178 r1.1 r1.2 hL ?_
  exact s_callV (as := [zI (xs (l4 + 1).toNat)]) (st := []) (o := 98) dL_law_1179 kL_149 rfl ⟨12, 87, TX12, e98, rfl, by decide⟩ rfl rfl (Nat.le_of_ble_eq_true rfl) hS (show 1000 - 1 + 1 ≤ 1000 by omega) (Nat.zero_le _) (Nat.zero_le _) (fun v n' h' hP _ => by obtain ⟨x, e, rfl, hR⟩ := hP; cases e; exact kk x h' hR) (fun E n' h' _ z => (rI_nt _ _ _ z).elim)
theorem bL_law_1182 {L b1 b2 : Nat} {xs : Nat → Int} {Q : RS → Nat → AH → Prop} {h : AH} (hL : L < 4000 := by omega) {l4 l5 s0 : Int} {x6 : AV} {R : Int → AH → Prop}   (hS : Sp mX12_thrown true (1000 - 1) 0 0 [zR 98] 137 h (rI R)) (hf : 1 ≤ 1000 := by omega) (kk : ∀ (x : Int) (h' : AH), R x h' → Wp mL_law (kL L xs) Q (b1, b2) 1188 [zR (-100), zR 1, zR 98, zR 137, zI l4, zI l5, zI s0] [zI x] 137 h') : Wp mL_law (kL L xs) Q (b1, b2) 1182 [zR (-100), zR 1, zR 98, zR 137, zI l4, zI l5, x6] [zI s0] 137 h := by
  refine s_fgt (fgt_c (fgt_c (fgt_c (fgt_c (fgt_c (fgt_c (fgt_n _ fgt_0))))))) ?_
  refine s_istore dL_law_1182 rfl (by decide) ?_
  refine s_aload_n (x := 98) dL_law_1184 rfl ?_
  exact s_callV (as := []) (st := []) (o := 98) dL_law_1185 kL_96 rfl ⟨12, 87, TX12, e98, rfl, by decide⟩ rfl rfl (Nat.le_of_ble_eq_true rfl) hS (show 1000 - 1 + 1 ≤ 1000 by omega) (Nat.zero_le _) (Nat.zero_le _) (fun v n' h' hP _ => by obtain ⟨x, e, rfl, hR⟩ := hP; cases e; exact kk x h' hR) (fun E n' h' _ z => (rI_nt _ _ _ z).elim)
theorem bL_law_1188 {L b1 b2 : Nat} {xs : Nat → Int} {Q : RS → Nat → AH → Prop} {h : AH} (hL : L < 4000 := by omega) {l4 l5 l6 s0 : Int}  (r1 : -2147483648 ≤ s0 ∧ s0 < 2147483648 := by omega) (r2 : -2147483648 ≤ l5 ∧ l5 < 2147483648 := by omega) (kt : s0 = l5 → Wp mL_law (kL L xs) Q (b1, b2) 1195 [zR (-100), zR 1, zR 98, zR 137, zI l4, zI l5, zI l6] [] 137 h) (kf : ¬ s0 = l5 → Wp mL_law (kL L xs) Q (b1, b2) 1193 [zR (-100), zR 1, zR 98, zR 137, zI l4, zI l5, zI l6] [] 137 h) : Wp mL_law (kL L xs) Q (b1, b2) 1188 [zR (-100), zR 1, zR 98, zR 137, zI l4, zI l5, zI l6] [zI s0] 137 h := by
  refine s_iload (x := l5) dL_law_1188 rfl ?_
  exact s_icmp_eq (tgt := 1195) dL_law_1190 (by decide) r1 r2 kt kf
theorem bL_law_1193 {L b1 b2 : Nat} {xs : Nat → Int} {Q : RS → Nat → AH → Prop} {h : AH} (hL : L < 4000 := by omega) {x0 x1 x2 x3 x4 x5 x6 : AV}   (hq : Q (.inl (some (zI 0))) 137 h) : Wp mL_law (kL L xs) Q (b1, b2) 1193 [x0, x1, x2, x3, x4, x5, x6] [] 137 h := by
  refine s_fgt (fgt_n _ (fgt_n _ (fgt_n _ (fgt_n _ (fgt_n _ (fgt_n _ (fgt_n _ fgt_0))))))) ?_
  refine s_iconst dL_law_1193 ?_
  exact s_ireturn dL_law_1194 ⟨.boolean, rfl, by decide⟩ hq (fun z => by cases z)
theorem bL_law_1195 {L b1 b2 : Nat} {xs : Nat → Int} {Q : RS → Nat → AH → Prop} {h : AH} (hL : L < 4000 := by omega) {l4 l5 l6 : Int}  (r1 : -2147483648 ≤ l5 ∧ l5 < 2147483648 := by omega) (kt : ¬ l5 = 0 → Wp mL_law (kL L xs) Q (b1, b2) 1212 [zR (-100), zR 1, zR 98, zR 137, zI l4, zI l5, zI l6] [] 137 h) (kf : l5 = 0 → Wp mL_law (kL L xs) Q (b1, b2) 1200 [zR (-100), zR 1, zR 98, zR 137, zI l4, zI l5, zI l6] [] 137 h) : Wp mL_law (kL L xs) Q (b1, b2) 1195 [zR (-100), zR 1, zR 98, zR 137, zI l4, zI l5, zI l6] [] 137 h := by
  refine s_iload (x := l5) dL_law_1195 rfl ?_
  exact s_if_ne (tgt := 1212) dL_law_1197 (by decide) r1 kt kf
theorem bL_law_1200 {L b1 b2 : Nat} {xs : Nat → Int} {Q : RS → Nat → AH → Prop} {h : AH} (hL : L < 4000 := by omega) {l4 l6 : Int} {x5 : AV}  (r1 : -2147483648 ≤ (lg_cmp (Int64.ofInt (h 137 0)) (Int64.ofInt (i2l l6))).toInt ∧ (lg_cmp (Int64.ofInt (h 137 0)) (Int64.ofInt (i2l l6))).toInt < 2147483648 := by omega) (kt : (lg_cmp (Int64.ofInt (h 137 0)) (Int64.ofInt (i2l l6))).toInt = 0 → Wp mL_law (kL L xs) Q (b1, b2) 1212 [zR (-100), zR 1, zR 98, zR 137, zI l4, none, zI l6] [] 137 h) (kf : ¬ (lg_cmp (Int64.ofInt (h 137 0)) (Int64.ofInt (i2l l6))).toInt = 0 → Wp mL_law (kL L xs) Q (b1, b2) 1210 [zR (-100), zR 1, zR 98, zR 137, zI l4, none, zI l6] [] 137 h) : Wp mL_law (kL L xs) Q (b1, b2) 1200 [zR (-100), zR 1, zR 98, zR 137, zI l4, x5, zI l6] [] 137 h := by
  refine s_fgt (fgt_c (fgt_c (fgt_c (fgt_c (fgt_c (fgt_n _ (fgt_c fgt_0))))))) ?_
  refine s_aload_n (x := 137) dL_law_1200 rfl ?_
  refine s_iconst dL_law_1201 ?_
  refine s_lald (c := 137) (i := 0) dL_law_1202 e137 (by decide) (by decide) ?_
  refine s_iload (x := l6) dL_law_1203 rfl ?_
  refine s_i2l dL_law_1205 ?_
  refine s_lcmp dL_law_1206 ?_
  exact s_if_eq (tgt := 1212) dL_law_1207 (by decide) r1 kt kf
theorem bL_law_1210 {L b1 b2 : Nat} {xs : Nat → Int} {Q : RS → Nat → AH → Prop} {h : AH} (hL : L < 4000 := by omega) {x0 x1 x2 x3 x4 x5 x6 : AV}   (hq : Q (.inl (some (zI 0))) 137 h) : Wp mL_law (kL L xs) Q (b1, b2) 1210 [x0, x1, x2, x3, x4, x5, x6] [] 137 h := by
  refine s_fgt (fgt_n _ (fgt_n _ (fgt_n _ (fgt_n _ (fgt_n _ (fgt_n _ (fgt_n _ fgt_0))))))) ?_
  refine s_iconst dL_law_1210 ?_
  exact s_ireturn dL_law_1211 ⟨.boolean, rfl, by decide⟩ hq (fun z => by cases z)
theorem bL_law_1212 {L b1 b2 : Nat} {xs : Nat → Int} {Q : RS → Nat → AH → Prop} {h : AH} (hL : L < 4000 := by omega) {l4 : Int} {x5 x6 : AV}   (kk : Wp mL_law (kL L xs) Q (b1, b2) 1771 [zR (-100), zR 1, zR 98, zR 137, zI l4, none, none] [] 137 h) : Wp mL_law (kL L xs) Q (b1, b2) 1212 [zR (-100), zR 1, zR 98, zR 137, zI l4, x5, x6] [] 137 h := by
  refine s_fgt (fgt_c (fgt_c (fgt_c (fgt_c (fgt_c (fgt_n _ (fgt_n _ fgt_0))))))) ?_
  exact s_goto (tgt := 1771) dL_law_1212 (by decide) kk
theorem bL_law_1215 {L b1 b2 : Nat} {xs : Nat → Int} {Q : RS → Nat → AH → Prop} {h : AH} (hL : L < 4000 := by omega) {l4 : Int} {x5 x6 : AV} {R : Int → AH → Prop}  (r1 : 0 ≤ l4 + 1 ∧ l4 + 1 < (L : Int) := by omega) (hS : Sp mL_tell true (1000 - 1) 8 48 [zR 1, zI (xs (l4 + 1).toNat), zR 137] 137 h (rI R)) (hf : 1 ≤ 1000 := by omega) (g1 : 8 ≤ b1 := by omega) (g2 : 48 ≤ b2 := by omega) (kk : ∀ (x : Int) (h' : AH), R x h' → Wp mL_law (kL L xs) Q (b1 - 8, b2 - 48) 1226 [zR (-100), zR 1, zR 98, zR 137, zI l4, none, none] [zI x] 137 h') : Wp mL_law (kL L xs) Q (b1, b2) 1215 [zR (-100), zR 1, zR 98, zR 137, zI l4, x5, x6] [] 137 h := by
  refine s_fgt (fgt_c (fgt_c (fgt_c (fgt_c (fgt_c (fgt_n _ (fgt_n _ fgt_0))))))) ?_
  refine s_aload_n (x := 1) dL_law_1215 rfl ?_
  refine s_aload_n (x := (-100)) dL_law_1216 rfl ?_
  refine s_iload (x := l4) dL_law_1217 rfl ?_
  refine s_iconst dL_law_1219 ?_
  refine s_iadd dL_law_1220 ?_
  refine s_sld (i := l4 + 1) rfl dL_law_1221 r1.1 r1.2 hL ?_
  refine s_aload_n (x := 137) dL_law_1222 rfl ?_
  exact s_callS (as := [zR 1, zI (xs (l4 + 1).toNat), zR 137]) (st := []) dL_law_1223 kL_150 rfl rfl (Nat.le_of_ble_eq_true rfl) hS (show 1000 - 1 + 1 ≤ 1000 by omega) g1 g2 (fun v n' h' hP _ => by obtain ⟨x, e, rfl, hR⟩ := hP; cases e; exact kk x h' hR) (fun E n' h' _ z => (rI_nt _ _ _ z).elim)
theorem bL_law_1226 {L b1 b2 : Nat} {xs : Nat → Int} {Q : RS → Nat → AH → Prop} {h : AH} (hL : L < 4000 := by omega) {l4 s0 : Int} {x5 x6 : AV} {R : Int → AH → Prop}  (r1 : 0 ≤ l4 + 1 ∧ l4 + 1 < (L : Int) := by omega) (hS : Sp mX12_tell true (1000 - 1) 0 0 [zR 98, zI (xs (l4 + 1).toNat)] 137 h (rI R)) (hf : 1 ≤ 1000 := by omega) (kk : ∀ (x : Int) (h' : AH), R x h' → Wp mL_law (kL L xs) Q (b1, b2) 1238 [zR (-100), zR 1, zR 98, zR 137, zI l4, zI s0, none] [zI x] 137 h') : Wp mL_law (kL L xs) Q (b1, b2) 1226 [zR (-100), zR 1, zR 98, zR 137, zI l4, x5, x6] [zI s0] 137 h := by
  refine s_fgt (fgt_c (fgt_c (fgt_c (fgt_c (fgt_c (fgt_n _ (fgt_n _ fgt_0))))))) ?_
  refine s_istore dL_law_1226 rfl (by decide) ?_
  refine s_aload_n (x := 98) dL_law_1228 rfl ?_
  refine s_aload_n (x := (-100)) dL_law_1229 rfl ?_
  refine s_iload (x := l4) dL_law_1230 rfl ?_
  refine s_iconst dL_law_1232 ?_
  refine s_iadd dL_law_1233 ?_
  refine s_sld (i := l4 + 1) rfl dL_law_1234 r1.1 r1.2 hL ?_
  exact s_callV (as := [zI (xs (l4 + 1).toNat)]) (st := []) (o := 98) dL_law_1235 kL_152 rfl ⟨12, 87, TX12, e98, rfl, by decide⟩ rfl rfl (Nat.le_of_ble_eq_true rfl) hS (show 1000 - 1 + 1 ≤ 1000 by omega) (Nat.zero_le _) (Nat.zero_le _) (fun v n' h' hP _ => by obtain ⟨x, e, rfl, hR⟩ := hP; cases e; exact kk x h' hR) (fun E n' h' _ z => (rI_nt _ _ _ z).elim)
theorem bL_law_1238 {L b1 b2 : Nat} {xs : Nat → Int} {Q : RS → Nat → AH → Prop} {h : AH} (hL : L < 4000 := by omega) {l4 l5 s0 : Int} {x6 : AV} {R : Int → AH → Prop}   (hS : Sp mX12_thrown true (1000 - 1) 0 0 [zR 98] 137 h (rI R)) (hf : 1 ≤ 1000 := by omega) (kk : ∀ (x : Int) (h' : AH), R x h' → Wp mL_law (kL L xs) Q (b1, b2) 1244 [zR (-100), zR 1, zR 98, zR 137, zI l4, zI l5, zI s0] [zI x] 137 h') : Wp mL_law (kL L xs) Q (b1, b2) 1238 [zR (-100), zR 1, zR 98, zR 137, zI l4, zI l5, x6] [zI s0] 137 h := by
  refine s_fgt (fgt_c (fgt_c (fgt_c (fgt_c (fgt_c (fgt_c (fgt_n _ fgt_0))))))) ?_
  refine s_istore dL_law_1238 rfl (by decide) ?_
  refine s_aload_n (x := 98) dL_law_1240 rfl ?_
  exact s_callV (as := []) (st := []) (o := 98) dL_law_1241 kL_96 rfl ⟨12, 87, TX12, e98, rfl, by decide⟩ rfl rfl (Nat.le_of_ble_eq_true rfl) hS (show 1000 - 1 + 1 ≤ 1000 by omega) (Nat.zero_le _) (Nat.zero_le _) (fun v n' h' hP _ => by obtain ⟨x, e, rfl, hR⟩ := hP; cases e; exact kk x h' hR) (fun E n' h' _ z => (rI_nt _ _ _ z).elim)
theorem bL_law_1244 {L b1 b2 : Nat} {xs : Nat → Int} {Q : RS → Nat → AH → Prop} {h : AH} (hL : L < 4000 := by omega) {l4 l5 l6 s0 : Int}  (r1 : -2147483648 ≤ s0 ∧ s0 < 2147483648 := by omega) (r2 : -2147483648 ≤ l5 ∧ l5 < 2147483648 := by omega) (kt : s0 = l5 → Wp mL_law (kL L xs) Q (b1, b2) 1251 [zR (-100), zR 1, zR 98, zR 137, zI l4, zI l5, zI l6] [] 137 h) (kf : ¬ s0 = l5 → Wp mL_law (kL L xs) Q (b1, b2) 1249 [zR (-100), zR 1, zR 98, zR 137, zI l4, zI l5, zI l6] [] 137 h) : Wp mL_law (kL L xs) Q (b1, b2) 1244 [zR (-100), zR 1, zR 98, zR 137, zI l4, zI l5, zI l6] [zI s0] 137 h := by
  refine s_iload (x := l5) dL_law_1244 rfl ?_
  exact s_icmp_eq (tgt := 1251) dL_law_1246 (by decide) r1 r2 kt kf
theorem bL_law_1249 {L b1 b2 : Nat} {xs : Nat → Int} {Q : RS → Nat → AH → Prop} {h : AH} (hL : L < 4000 := by omega) {x0 x1 x2 x3 x4 x5 x6 : AV}   (hq : Q (.inl (some (zI 0))) 137 h) : Wp mL_law (kL L xs) Q (b1, b2) 1249 [x0, x1, x2, x3, x4, x5, x6] [] 137 h := by
  refine s_fgt (fgt_n _ (fgt_n _ (fgt_n _ (fgt_n _ (fgt_n _ (fgt_n _ (fgt_n _ fgt_0))))))) ?_
  refine s_iconst dL_law_1249 ?_
  exact s_ireturn dL_law_1250 ⟨.boolean, rfl, by decide⟩ hq (fun z => by cases z)
theorem bL_law_1251 {L b1 b2 : Nat} {xs : Nat → Int} {Q : RS → Nat → AH → Prop} {h : AH} (hL : L < 4000 := by omega) {l4 l5 l6 : Int}  (r1 : -2147483648 ≤ l5 ∧ l5 < 2147483648 := by omega) (kt : ¬ l5 = 0 → Wp mL_law (kL L xs) Q (b1, b2) 1268 [zR (-100), zR 1, zR 98, zR 137, zI l4, zI l5, zI l6] [] 137 h) (kf : l5 = 0 → Wp mL_law (kL L xs) Q (b1, b2) 1256 [zR (-100), zR 1, zR 98, zR 137, zI l4, zI l5, zI l6] [] 137 h) : Wp mL_law (kL L xs) Q (b1, b2) 1251 [zR (-100), zR 1, zR 98, zR 137, zI l4, zI l5, zI l6] [] 137 h := by
  refine s_iload (x := l5) dL_law_1251 rfl ?_
  exact s_if_ne (tgt := 1268) dL_law_1253 (by decide) r1 kt kf
theorem bL_law_1256 {L b1 b2 : Nat} {xs : Nat → Int} {Q : RS → Nat → AH → Prop} {h : AH} (hL : L < 4000 := by omega) {l4 l6 : Int} {x5 : AV}  (r1 : -2147483648 ≤ (lg_cmp (Int64.ofInt (h 137 0)) (Int64.ofInt (i2l l6))).toInt ∧ (lg_cmp (Int64.ofInt (h 137 0)) (Int64.ofInt (i2l l6))).toInt < 2147483648 := by omega) (kt : (lg_cmp (Int64.ofInt (h 137 0)) (Int64.ofInt (i2l l6))).toInt = 0 → Wp mL_law (kL L xs) Q (b1, b2) 1268 [zR (-100), zR 1, zR 98, zR 137, zI l4, none, zI l6] [] 137 h) (kf : ¬ (lg_cmp (Int64.ofInt (h 137 0)) (Int64.ofInt (i2l l6))).toInt = 0 → Wp mL_law (kL L xs) Q (b1, b2) 1266 [zR (-100), zR 1, zR 98, zR 137, zI l4, none, zI l6] [] 137 h) : Wp mL_law (kL L xs) Q (b1, b2) 1256 [zR (-100), zR 1, zR 98, zR 137, zI l4, x5, zI l6] [] 137 h := by
  refine s_fgt (fgt_c (fgt_c (fgt_c (fgt_c (fgt_c (fgt_n _ (fgt_c fgt_0))))))) ?_
  refine s_aload_n (x := 137) dL_law_1256 rfl ?_
  refine s_iconst dL_law_1257 ?_
  refine s_lald (c := 137) (i := 0) dL_law_1258 e137 (by decide) (by decide) ?_
  refine s_iload (x := l6) dL_law_1259 rfl ?_
  refine s_i2l dL_law_1261 ?_
  refine s_lcmp dL_law_1262 ?_
  exact s_if_eq (tgt := 1268) dL_law_1263 (by decide) r1 kt kf
theorem bL_law_1266 {L b1 b2 : Nat} {xs : Nat → Int} {Q : RS → Nat → AH → Prop} {h : AH} (hL : L < 4000 := by omega) {x0 x1 x2 x3 x4 x5 x6 : AV}   (hq : Q (.inl (some (zI 0))) 137 h) : Wp mL_law (kL L xs) Q (b1, b2) 1266 [x0, x1, x2, x3, x4, x5, x6] [] 137 h := by
  refine s_fgt (fgt_n _ (fgt_n _ (fgt_n _ (fgt_n _ (fgt_n _ (fgt_n _ (fgt_n _ fgt_0))))))) ?_
  refine s_iconst dL_law_1266 ?_
  exact s_ireturn dL_law_1267 ⟨.boolean, rfl, by decide⟩ hq (fun z => by cases z)
theorem bL_law_1268 {L b1 b2 : Nat} {xs : Nat → Int} {Q : RS → Nat → AH → Prop} {h : AH} (hL : L < 4000 := by omega) {l4 : Int} {x5 x6 : AV}   (kk : Wp mL_law (kL L xs) Q (b1, b2) 1771 [zR (-100), zR 1, zR 98, zR 137, zI l4, none, none] [] 137 h) : Wp mL_law (kL L xs) Q (b1, b2) 1268 [zR (-100), zR 1, zR 98, zR 137, zI l4, x5, x6] [] 137 h := by
  refine s_fgt (fgt_c (fgt_c (fgt_c (fgt_c (fgt_c (fgt_n _ (fgt_n _ fgt_0))))))) ?_
  exact s_goto (tgt := 1771) dL_law_1268 (by decide) kk
theorem bL_law_1271 {L b1 b2 : Nat} {xs : Nat → Int} {Q : RS → Nat → AH → Prop} {h : AH} (hL : L < 4000 := by omega) {l4 : Int} {x5 x6 : AV} {R : Int → AH → Prop}   (hS : Sp mX11_untell true (1000 - 1) 0 0 [zR 1] 137 h (rI R)) (hf : 1 ≤ 1000 := by omega) (kk : ∀ (x : Int) (h' : AH), R x h' → Wp mL_law (kL L xs) Q (b1, b2) 1275 [zR (-100), zR 1, zR 98, zR 137, zI l4, none, none] [zI x] 137 h') : Wp mL_law (kL L xs) Q (b1, b2) 1271 [zR (-100), zR 1, zR 98, zR 137, zI l4, x5, x6] [] 137 h := by
  refine s_fgt (fgt_c (fgt_c (fgt_c (fgt_c (fgt_c (fgt_n _ (fgt_n _ fgt_0))))))) ?_
  refine s_aload_n (x := 1) dL_law_1271 rfl ?_
  exact s_callV (as := []) (st := []) (o := 1) dL_law_1272 kL_153 rfl ⟨11, 18, TX11, e1, rfl, by decide⟩ rfl rfl (Nat.le_of_ble_eq_true rfl) hS (show 1000 - 1 + 1 ≤ 1000 by omega) (Nat.zero_le _) (Nat.zero_le _) (fun v n' h' hP _ => by obtain ⟨x, e, rfl, hR⟩ := hP; cases e; exact kk x h' hR) (fun E n' h' _ z => (rI_nt _ _ _ z).elim)
theorem bL_law_1275 {L b1 b2 : Nat} {xs : Nat → Int} {Q : RS → Nat → AH → Prop} {h : AH} (hL : L < 4000 := by omega) {l4 s0 : Int} {x5 x6 : AV} {R : Int → AH → Prop}   (hS : Sp mX12_untell true (1000 - 1) 0 0 [zR 98] 137 h (rI R)) (hf : 1 ≤ 1000 := by omega) (kk : ∀ (x : Int) (h' : AH), R x h' → Wp mL_law (kL L xs) Q (b1, b2) 1279 [zR (-100), zR 1, zR 98, zR 137, zI l4, none, none] [zI x, zI s0] 137 h') : Wp mL_law (kL L xs) Q (b1, b2) 1275 [zR (-100), zR 1, zR 98, zR 137, zI l4, x5, x6] [zI s0] 137 h := by
  refine s_fgt (fgt_c (fgt_c (fgt_c (fgt_c (fgt_c (fgt_n _ (fgt_n _ fgt_0))))))) ?_
  refine s_aload_n (x := 98) dL_law_1275 rfl ?_
  exact s_callV (as := []) (st := [zI s0]) (o := 98) dL_law_1276 kL_156 rfl ⟨12, 87, TX12, e98, rfl, by decide⟩ rfl rfl (Nat.le_of_ble_eq_true rfl) hS (show 1000 - 1 + 1 ≤ 1000 by omega) (Nat.zero_le _) (Nat.zero_le _) (fun v n' h' hP _ => by obtain ⟨x, e, rfl, hR⟩ := hP; cases e; exact kk x h' hR) (fun E n' h' _ z => (rI_nt _ _ _ z).elim)
theorem bL_law_1279 {L b1 b2 : Nat} {xs : Nat → Int} {Q : RS → Nat → AH → Prop} {h : AH} (hL : L < 4000 := by omega) {l4 s1 s0 : Int} {x5 x6 : AV}  (r1 : -2147483648 ≤ s1 ∧ s1 < 2147483648 := by omega) (r2 : -2147483648 ≤ s0 ∧ s0 < 2147483648 := by omega) (kt : s1 = s0 → Wp mL_law (kL L xs) Q (b1, b2) 1771 [zR (-100), zR 1, zR 98, zR 137, zI l4, none, none] [] 137 h) (kf : ¬ s1 = s0 → Wp mL_law (kL L xs) Q (b1, b2) 1282 [zR (-100), zR 1, zR 98, zR 137, zI l4, none, none] [] 137 h) : Wp mL_law (kL L xs) Q (b1, b2) 1279 [zR (-100), zR 1, zR 98, zR 137, zI l4, x5, x6] [zI s0, zI s1] 137 h := by
  refine s_fgt (fgt_c (fgt_c (fgt_c (fgt_c (fgt_c (fgt_n _ (fgt_n _ fgt_0))))))) ?_
  exact s_icmp_eq (tgt := 1771) dL_law_1279 (by decide) r1 r2 kt kf
theorem bL_law_1282 {L b1 b2 : Nat} {xs : Nat → Int} {Q : RS → Nat → AH → Prop} {h : AH} (hL : L < 4000 := by omega) {x0 x1 x2 x3 x4 x5 x6 : AV}   (hq : Q (.inl (some (zI 0))) 137 h) : Wp mL_law (kL L xs) Q (b1, b2) 1282 [x0, x1, x2, x3, x4, x5, x6] [] 137 h := by
  refine s_fgt (fgt_n _ (fgt_n _ (fgt_n _ (fgt_n _ (fgt_n _ (fgt_n _ (fgt_n _ fgt_0))))))) ?_
  refine s_iconst dL_law_1282 ?_
  exact s_ireturn dL_law_1283 ⟨.boolean, rfl, by decide⟩ hq (fun z => by cases z)
theorem bL_law_1284 {L b1 b2 : Nat} {xs : Nat → Int} {Q : RS → Nat → AH → Prop} {h : AH} (hL : L < 4000 := by omega) {l4 : Int} {x5 x6 : AV} {R : Int → AH → Prop}  (r1 : 0 ≤ l4 + 1 ∧ l4 + 1 < (L : Int) := by omega) (r2 : 0 ≤ l4 + 2 ∧ l4 + 2 < (L : Int) := by omega) (hS : Sp mL_rivals true (1000 - 1) 8 48 [zR 1, zI (xs (l4 + 1).toNat), zI (xs (l4 + 2).toNat), zR 137] 137 h (rI R)) (hf : 1 ≤ 1000 := by omega) (g1 : 8 ≤ b1 := by omega) (g2 : 48 ≤ b2 := by omega) (kk : ∀ (x : Int) (h' : AH), R x h' → Wp mL_law (kL L xs) Q (b1 - 8, b2 - 48) 1301 [zR (-100), zR 1, zR 98, zR 137, zI l4, none, none] [zI x] 137 h') : Wp mL_law (kL L xs) Q (b1, b2) 1284 [zR (-100), zR 1, zR 98, zR 137, zI l4, x5, x6] [] 137 h := by
  refine s_fgt (fgt_c (fgt_c (fgt_c (fgt_c (fgt_c (fgt_n _ (fgt_n _ fgt_0))))))) ?_
  refine s_aload_n (x := 1) dL_law_1284 rfl ?_
  refine s_aload_n (x := (-100)) dL_law_1285 rfl ?_
  refine s_iload (x := l4) dL_law_1286 rfl ?_
  refine s_iconst dL_law_1288 ?_
  refine s_iadd dL_law_1289 ?_
  refine s_sld (i := l4 + 1) rfl dL_law_1290 r1.1 r1.2 hL ?_
  refine s_aload_n (x := (-100)) dL_law_1291 rfl ?_
  refine s_iload (x := l4) dL_law_1292 rfl ?_
  refine s_iconst dL_law_1294 ?_
  refine s_iadd dL_law_1295 ?_
  refine s_sld (i := l4 + 2) rfl dL_law_1296 r2.1 r2.2 hL ?_
  refine s_aload_n (x := 137) dL_law_1297 rfl ?_
  exact s_callS (as := [zR 1, zI (xs (l4 + 1).toNat), zI (xs (l4 + 2).toNat), zR 137]) (st := []) dL_law_1298 kL_157 rfl rfl (Nat.le_of_ble_eq_true rfl) hS (show 1000 - 1 + 1 ≤ 1000 by omega) g1 g2 (fun v n' h' hP _ => by obtain ⟨x, e, rfl, hR⟩ := hP; cases e; exact kk x h' hR) (fun E n' h' _ z => (rI_nt _ _ _ z).elim)
theorem bL_law_1301 {L b1 b2 : Nat} {xs : Nat → Int} {Q : RS → Nat → AH → Prop} {h : AH} (hL : L < 4000 := by omega) {l4 s0 : Int} {x5 x6 : AV} {R : Int → AH → Prop}  (r1 : 0 ≤ l4 + 1 ∧ l4 + 1 < (L : Int) := by omega) (r2 : 0 ≤ l4 + 2 ∧ l4 + 2 < (L : Int) := by omega) (hS : Sp mX12_rivals true (1000 - 1) 0 0 [zR 98, zI (xs (l4 + 1).toNat), zI (xs (l4 + 2).toNat)] 137 h (rI R)) (hf : 1 ≤ 1000 := by omega) (kk : ∀ (x : Int) (h' : AH), R x h' → Wp mL_law (kL L xs) Q (b1, b2) 1319 [zR (-100), zR 1, zR 98, zR 137, zI l4, zI s0, none] [zI x] 137 h') : Wp mL_law (kL L xs) Q (b1, b2) 1301 [zR (-100), zR 1, zR 98, zR 137, zI l4, x5, x6] [zI s0] 137 h := by
  refine s_fgt (fgt_c (fgt_c (fgt_c (fgt_c (fgt_c (fgt_n _ (fgt_n _ fgt_0))))))) ?_
  refine s_istore dL_law_1301 rfl (by decide) ?_
  refine s_aload_n (x := 98) dL_law_1303 rfl ?_
  refine s_aload_n (x := (-100)) dL_law_1304 rfl ?_
  refine s_iload (x := l4) dL_law_1305 rfl ?_
  refine s_iconst dL_law_1307 ?_
  refine s_iadd dL_law_1308 ?_
  refine s_sld (i := l4 + 1) rfl dL_law_1309 r1.1 r1.2 hL ?_
  refine s_aload_n (x := (-100)) dL_law_1310 rfl ?_
  refine s_iload (x := l4) dL_law_1311 rfl ?_
  refine s_iconst dL_law_1313 ?_
  refine s_iadd dL_law_1314 ?_
  refine s_sld (i := l4 + 2) rfl dL_law_1315 r2.1 r2.2 hL ?_
  exact s_callV (as := [zI (xs (l4 + 1).toNat), zI (xs (l4 + 2).toNat)]) (st := []) (o := 98) dL_law_1316 kL_159 rfl ⟨12, 87, TX12, e98, rfl, by decide⟩ rfl rfl (Nat.le_of_ble_eq_true rfl) hS (show 1000 - 1 + 1 ≤ 1000 by omega) (Nat.zero_le _) (Nat.zero_le _) (fun v n' h' hP _ => by obtain ⟨x, e, rfl, hR⟩ := hP; cases e; exact kk x h' hR) (fun E n' h' _ z => (rI_nt _ _ _ z).elim)
theorem bL_law_1319 {L b1 b2 : Nat} {xs : Nat → Int} {Q : RS → Nat → AH → Prop} {h : AH} (hL : L < 4000 := by omega) {l4 l5 s0 : Int} {x6 : AV} {R : Int → AH → Prop}   (hS : Sp mX12_thrown true (1000 - 1) 0 0 [zR 98] 137 h (rI R)) (hf : 1 ≤ 1000 := by omega) (kk : ∀ (x : Int) (h' : AH), R x h' → Wp mL_law (kL L xs) Q (b1, b2) 1325 [zR (-100), zR 1, zR 98, zR 137, zI l4, zI l5, zI s0] [zI x] 137 h') : Wp mL_law (kL L xs) Q (b1, b2) 1319 [zR (-100), zR 1, zR 98, zR 137, zI l4, zI l5, x6] [zI s0] 137 h := by
  refine s_fgt (fgt_c (fgt_c (fgt_c (fgt_c (fgt_c (fgt_c (fgt_n _ fgt_0))))))) ?_
  refine s_istore dL_law_1319 rfl (by decide) ?_
  refine s_aload_n (x := 98) dL_law_1321 rfl ?_
  exact s_callV (as := []) (st := []) (o := 98) dL_law_1322 kL_96 rfl ⟨12, 87, TX12, e98, rfl, by decide⟩ rfl rfl (Nat.le_of_ble_eq_true rfl) hS (show 1000 - 1 + 1 ≤ 1000 by omega) (Nat.zero_le _) (Nat.zero_le _) (fun v n' h' hP _ => by obtain ⟨x, e, rfl, hR⟩ := hP; cases e; exact kk x h' hR) (fun E n' h' _ z => (rI_nt _ _ _ z).elim)
theorem bL_law_1325 {L b1 b2 : Nat} {xs : Nat → Int} {Q : RS → Nat → AH → Prop} {h : AH} (hL : L < 4000 := by omega) {l4 l5 l6 s0 : Int}  (r1 : -2147483648 ≤ s0 ∧ s0 < 2147483648 := by omega) (r2 : -2147483648 ≤ l5 ∧ l5 < 2147483648 := by omega) (kt : s0 = l5 → Wp mL_law (kL L xs) Q (b1, b2) 1332 [zR (-100), zR 1, zR 98, zR 137, zI l4, zI l5, zI l6] [] 137 h) (kf : ¬ s0 = l5 → Wp mL_law (kL L xs) Q (b1, b2) 1330 [zR (-100), zR 1, zR 98, zR 137, zI l4, zI l5, zI l6] [] 137 h) : Wp mL_law (kL L xs) Q (b1, b2) 1325 [zR (-100), zR 1, zR 98, zR 137, zI l4, zI l5, zI l6] [zI s0] 137 h := by
  refine s_iload (x := l5) dL_law_1325 rfl ?_
  exact s_icmp_eq (tgt := 1332) dL_law_1327 (by decide) r1 r2 kt kf
theorem bL_law_1330 {L b1 b2 : Nat} {xs : Nat → Int} {Q : RS → Nat → AH → Prop} {h : AH} (hL : L < 4000 := by omega) {x0 x1 x2 x3 x4 x5 x6 : AV}   (hq : Q (.inl (some (zI 0))) 137 h) : Wp mL_law (kL L xs) Q (b1, b2) 1330 [x0, x1, x2, x3, x4, x5, x6] [] 137 h := by
  refine s_fgt (fgt_n _ (fgt_n _ (fgt_n _ (fgt_n _ (fgt_n _ (fgt_n _ (fgt_n _ fgt_0))))))) ?_
  refine s_iconst dL_law_1330 ?_
  exact s_ireturn dL_law_1331 ⟨.boolean, rfl, by decide⟩ hq (fun z => by cases z)
theorem bL_law_1332 {L b1 b2 : Nat} {xs : Nat → Int} {Q : RS → Nat → AH → Prop} {h : AH} (hL : L < 4000 := by omega) {l4 l5 l6 : Int}  (r1 : -2147483648 ≤ l5 ∧ l5 < 2147483648 := by omega) (kt : ¬ l5 = 0 → Wp mL_law (kL L xs) Q (b1, b2) 1349 [zR (-100), zR 1, zR 98, zR 137, zI l4, zI l5, zI l6] [] 137 h) (kf : l5 = 0 → Wp mL_law (kL L xs) Q (b1, b2) 1337 [zR (-100), zR 1, zR 98, zR 137, zI l4, zI l5, zI l6] [] 137 h) : Wp mL_law (kL L xs) Q (b1, b2) 1332 [zR (-100), zR 1, zR 98, zR 137, zI l4, zI l5, zI l6] [] 137 h := by
  refine s_iload (x := l5) dL_law_1332 rfl ?_
  exact s_if_ne (tgt := 1349) dL_law_1334 (by decide) r1 kt kf
theorem bL_law_1337 {L b1 b2 : Nat} {xs : Nat → Int} {Q : RS → Nat → AH → Prop} {h : AH} (hL : L < 4000 := by omega) {l4 l6 : Int} {x5 : AV}  (r1 : -2147483648 ≤ (lg_cmp (Int64.ofInt (h 137 0)) (Int64.ofInt (i2l l6))).toInt ∧ (lg_cmp (Int64.ofInt (h 137 0)) (Int64.ofInt (i2l l6))).toInt < 2147483648 := by omega) (kt : (lg_cmp (Int64.ofInt (h 137 0)) (Int64.ofInt (i2l l6))).toInt = 0 → Wp mL_law (kL L xs) Q (b1, b2) 1349 [zR (-100), zR 1, zR 98, zR 137, zI l4, none, zI l6] [] 137 h) (kf : ¬ (lg_cmp (Int64.ofInt (h 137 0)) (Int64.ofInt (i2l l6))).toInt = 0 → Wp mL_law (kL L xs) Q (b1, b2) 1347 [zR (-100), zR 1, zR 98, zR 137, zI l4, none, zI l6] [] 137 h) : Wp mL_law (kL L xs) Q (b1, b2) 1337 [zR (-100), zR 1, zR 98, zR 137, zI l4, x5, zI l6] [] 137 h := by
  refine s_fgt (fgt_c (fgt_c (fgt_c (fgt_c (fgt_c (fgt_n _ (fgt_c fgt_0))))))) ?_
  refine s_aload_n (x := 137) dL_law_1337 rfl ?_
  refine s_iconst dL_law_1338 ?_
  refine s_lald (c := 137) (i := 0) dL_law_1339 e137 (by decide) (by decide) ?_
  refine s_iload (x := l6) dL_law_1340 rfl ?_
  refine s_i2l dL_law_1342 ?_
  refine s_lcmp dL_law_1343 ?_
  exact s_if_eq (tgt := 1349) dL_law_1344 (by decide) r1 kt kf
theorem bL_law_1347 {L b1 b2 : Nat} {xs : Nat → Int} {Q : RS → Nat → AH → Prop} {h : AH} (hL : L < 4000 := by omega) {x0 x1 x2 x3 x4 x5 x6 : AV}   (hq : Q (.inl (some (zI 0))) 137 h) : Wp mL_law (kL L xs) Q (b1, b2) 1347 [x0, x1, x2, x3, x4, x5, x6] [] 137 h := by
  refine s_fgt (fgt_n _ (fgt_n _ (fgt_n _ (fgt_n _ (fgt_n _ (fgt_n _ (fgt_n _ fgt_0))))))) ?_
  refine s_iconst dL_law_1347 ?_
  exact s_ireturn dL_law_1348 ⟨.boolean, rfl, by decide⟩ hq (fun z => by cases z)
theorem bL_law_1349 {L b1 b2 : Nat} {xs : Nat → Int} {Q : RS → Nat → AH → Prop} {h : AH} (hL : L < 4000 := by omega) {l4 : Int} {x5 x6 : AV}   (kk : Wp mL_law (kL L xs) Q (b1, b2) 1771 [zR (-100), zR 1, zR 98, zR 137, zI l4, none, none] [] 137 h) : Wp mL_law (kL L xs) Q (b1, b2) 1349 [zR (-100), zR 1, zR 98, zR 137, zI l4, x5, x6] [] 137 h := by
  refine s_fgt (fgt_c (fgt_c (fgt_c (fgt_c (fgt_c (fgt_n _ (fgt_n _ fgt_0))))))) ?_
  exact s_goto (tgt := 1771) dL_law_1349 (by decide) kk
theorem bL_law_1352 {L b1 b2 : Nat} {xs : Nat → Int} {Q : RS → Nat → AH → Prop} {h : AH} (hL : L < 4000 := by omega) {l4 : Int} {x5 x6 : AV} {R : Int → AH → Prop}  (r1 : 0 ≤ l4 + 1 ∧ l4 + 1 < (L : Int) := by omega) (hS : Sp mL_sayers true (1000 - 1) 8 48 [zR 1, zI (xs (l4 + 1).toNat), zR 137] 137 h (rI R)) (hf : 1 ≤ 1000 := by omega) (g1 : 8 ≤ b1 := by omega) (g2 : 48 ≤ b2 := by omega) (kk : ∀ (x : Int) (h' : AH), R x h' → Wp mL_law (kL L xs) Q (b1 - 8, b2 - 48) 1363 [zR (-100), zR 1, zR 98, zR 137, zI l4, none, none] [zI x] 137 h') : Wp mL_law (kL L xs) Q (b1, b2) 1352 [zR (-100), zR 1, zR 98, zR 137, zI l4, x5, x6] [] 137 h := by
  refine s_fgt (fgt_c (fgt_c (fgt_c (fgt_c (fgt_c (fgt_n _ (fgt_n _ fgt_0))))))) ?_
  refine s_aload_n (x := 1) dL_law_1352 rfl ?_
  refine s_aload_n (x := (-100)) dL_law_1353 rfl ?_
  refine s_iload (x := l4) dL_law_1354 rfl ?_
  refine s_iconst dL_law_1356 ?_
  refine s_iadd dL_law_1357 ?_
  refine s_sld (i := l4 + 1) rfl dL_law_1358 r1.1 r1.2 hL ?_
  refine s_aload_n (x := 137) dL_law_1359 rfl ?_
  exact s_callS (as := [zR 1, zI (xs (l4 + 1).toNat), zR 137]) (st := []) dL_law_1360 kL_160 rfl rfl (Nat.le_of_ble_eq_true rfl) hS (show 1000 - 1 + 1 ≤ 1000 by omega) g1 g2 (fun v n' h' hP _ => by obtain ⟨x, e, rfl, hR⟩ := hP; cases e; exact kk x h' hR) (fun E n' h' _ z => (rI_nt _ _ _ z).elim)
theorem bL_law_1363 {L b1 b2 : Nat} {xs : Nat → Int} {Q : RS → Nat → AH → Prop} {h : AH} (hL : L < 4000 := by omega) {l4 s0 : Int} {x5 x6 : AV} {R : Int → AH → Prop}  (r1 : 0 ≤ l4 + 1 ∧ l4 + 1 < (L : Int) := by omega) (hS : Sp mX12_sayers true (1000 - 1) 0 0 [zR 98, zI (xs (l4 + 1).toNat)] 137 h (rI R)) (hf : 1 ≤ 1000 := by omega) (kk : ∀ (x : Int) (h' : AH), R x h' → Wp mL_law (kL L xs) Q (b1, b2) 1375 [zR (-100), zR 1, zR 98, zR 137, zI l4, zI s0, none] [zI x] 137 h') : Wp mL_law (kL L xs) Q (b1, b2) 1363 [zR (-100), zR 1, zR 98, zR 137, zI l4, x5, x6] [zI s0] 137 h := by
  refine s_fgt (fgt_c (fgt_c (fgt_c (fgt_c (fgt_c (fgt_n _ (fgt_n _ fgt_0))))))) ?_
  refine s_istore dL_law_1363 rfl (by decide) ?_
  refine s_aload_n (x := 98) dL_law_1365 rfl ?_
  refine s_aload_n (x := (-100)) dL_law_1366 rfl ?_
  refine s_iload (x := l4) dL_law_1367 rfl ?_
  refine s_iconst dL_law_1369 ?_
  refine s_iadd dL_law_1370 ?_
  refine s_sld (i := l4 + 1) rfl dL_law_1371 r1.1 r1.2 hL ?_
  exact s_callV (as := [zI (xs (l4 + 1).toNat)]) (st := []) (o := 98) dL_law_1372 kL_162 rfl ⟨12, 87, TX12, e98, rfl, by decide⟩ rfl rfl (Nat.le_of_ble_eq_true rfl) hS (show 1000 - 1 + 1 ≤ 1000 by omega) (Nat.zero_le _) (Nat.zero_le _) (fun v n' h' hP _ => by obtain ⟨x, e, rfl, hR⟩ := hP; cases e; exact kk x h' hR) (fun E n' h' _ z => (rI_nt _ _ _ z).elim)
theorem bL_law_1375 {L b1 b2 : Nat} {xs : Nat → Int} {Q : RS → Nat → AH → Prop} {h : AH} (hL : L < 4000 := by omega) {l4 l5 s0 : Int} {x6 : AV} {R : Int → AH → Prop}   (hS : Sp mX12_thrown true (1000 - 1) 0 0 [zR 98] 137 h (rI R)) (hf : 1 ≤ 1000 := by omega) (kk : ∀ (x : Int) (h' : AH), R x h' → Wp mL_law (kL L xs) Q (b1, b2) 1381 [zR (-100), zR 1, zR 98, zR 137, zI l4, zI l5, zI s0] [zI x] 137 h') : Wp mL_law (kL L xs) Q (b1, b2) 1375 [zR (-100), zR 1, zR 98, zR 137, zI l4, zI l5, x6] [zI s0] 137 h := by
  refine s_fgt (fgt_c (fgt_c (fgt_c (fgt_c (fgt_c (fgt_c (fgt_n _ fgt_0))))))) ?_
  refine s_istore dL_law_1375 rfl (by decide) ?_
  refine s_aload_n (x := 98) dL_law_1377 rfl ?_
  exact s_callV (as := []) (st := []) (o := 98) dL_law_1378 kL_96 rfl ⟨12, 87, TX12, e98, rfl, by decide⟩ rfl rfl (Nat.le_of_ble_eq_true rfl) hS (show 1000 - 1 + 1 ≤ 1000 by omega) (Nat.zero_le _) (Nat.zero_le _) (fun v n' h' hP _ => by obtain ⟨x, e, rfl, hR⟩ := hP; cases e; exact kk x h' hR) (fun E n' h' _ z => (rI_nt _ _ _ z).elim)
theorem bL_law_1381 {L b1 b2 : Nat} {xs : Nat → Int} {Q : RS → Nat → AH → Prop} {h : AH} (hL : L < 4000 := by omega) {l4 l5 l6 s0 : Int}  (r1 : -2147483648 ≤ s0 ∧ s0 < 2147483648 := by omega) (r2 : -2147483648 ≤ l5 ∧ l5 < 2147483648 := by omega) (kt : s0 = l5 → Wp mL_law (kL L xs) Q (b1, b2) 1388 [zR (-100), zR 1, zR 98, zR 137, zI l4, zI l5, zI l6] [] 137 h) (kf : ¬ s0 = l5 → Wp mL_law (kL L xs) Q (b1, b2) 1386 [zR (-100), zR 1, zR 98, zR 137, zI l4, zI l5, zI l6] [] 137 h) : Wp mL_law (kL L xs) Q (b1, b2) 1381 [zR (-100), zR 1, zR 98, zR 137, zI l4, zI l5, zI l6] [zI s0] 137 h := by
  refine s_iload (x := l5) dL_law_1381 rfl ?_
  exact s_icmp_eq (tgt := 1388) dL_law_1383 (by decide) r1 r2 kt kf
theorem bL_law_1386 {L b1 b2 : Nat} {xs : Nat → Int} {Q : RS → Nat → AH → Prop} {h : AH} (hL : L < 4000 := by omega) {x0 x1 x2 x3 x4 x5 x6 : AV}   (hq : Q (.inl (some (zI 0))) 137 h) : Wp mL_law (kL L xs) Q (b1, b2) 1386 [x0, x1, x2, x3, x4, x5, x6] [] 137 h := by
  refine s_fgt (fgt_n _ (fgt_n _ (fgt_n _ (fgt_n _ (fgt_n _ (fgt_n _ (fgt_n _ fgt_0))))))) ?_
  refine s_iconst dL_law_1386 ?_
  exact s_ireturn dL_law_1387 ⟨.boolean, rfl, by decide⟩ hq (fun z => by cases z)
theorem bL_law_1388 {L b1 b2 : Nat} {xs : Nat → Int} {Q : RS → Nat → AH → Prop} {h : AH} (hL : L < 4000 := by omega) {l4 l5 l6 : Int}  (r1 : -2147483648 ≤ l5 ∧ l5 < 2147483648 := by omega) (kt : ¬ l5 = 0 → Wp mL_law (kL L xs) Q (b1, b2) 1405 [zR (-100), zR 1, zR 98, zR 137, zI l4, zI l5, zI l6] [] 137 h) (kf : l5 = 0 → Wp mL_law (kL L xs) Q (b1, b2) 1393 [zR (-100), zR 1, zR 98, zR 137, zI l4, zI l5, zI l6] [] 137 h) : Wp mL_law (kL L xs) Q (b1, b2) 1388 [zR (-100), zR 1, zR 98, zR 137, zI l4, zI l5, zI l6] [] 137 h := by
  refine s_iload (x := l5) dL_law_1388 rfl ?_
  exact s_if_ne (tgt := 1405) dL_law_1390 (by decide) r1 kt kf
theorem bL_law_1393 {L b1 b2 : Nat} {xs : Nat → Int} {Q : RS → Nat → AH → Prop} {h : AH} (hL : L < 4000 := by omega) {l4 l6 : Int} {x5 : AV}  (r1 : -2147483648 ≤ (lg_cmp (Int64.ofInt (h 137 0)) (Int64.ofInt (i2l l6))).toInt ∧ (lg_cmp (Int64.ofInt (h 137 0)) (Int64.ofInt (i2l l6))).toInt < 2147483648 := by omega) (kt : (lg_cmp (Int64.ofInt (h 137 0)) (Int64.ofInt (i2l l6))).toInt = 0 → Wp mL_law (kL L xs) Q (b1, b2) 1405 [zR (-100), zR 1, zR 98, zR 137, zI l4, none, zI l6] [] 137 h) (kf : ¬ (lg_cmp (Int64.ofInt (h 137 0)) (Int64.ofInt (i2l l6))).toInt = 0 → Wp mL_law (kL L xs) Q (b1, b2) 1403 [zR (-100), zR 1, zR 98, zR 137, zI l4, none, zI l6] [] 137 h) : Wp mL_law (kL L xs) Q (b1, b2) 1393 [zR (-100), zR 1, zR 98, zR 137, zI l4, x5, zI l6] [] 137 h := by
  refine s_fgt (fgt_c (fgt_c (fgt_c (fgt_c (fgt_c (fgt_n _ (fgt_c fgt_0))))))) ?_
  refine s_aload_n (x := 137) dL_law_1393 rfl ?_
  refine s_iconst dL_law_1394 ?_
  refine s_lald (c := 137) (i := 0) dL_law_1395 e137 (by decide) (by decide) ?_
  refine s_iload (x := l6) dL_law_1396 rfl ?_
  refine s_i2l dL_law_1398 ?_
  refine s_lcmp dL_law_1399 ?_
  exact s_if_eq (tgt := 1405) dL_law_1400 (by decide) r1 kt kf
theorem bL_law_1403 {L b1 b2 : Nat} {xs : Nat → Int} {Q : RS → Nat → AH → Prop} {h : AH} (hL : L < 4000 := by omega) {x0 x1 x2 x3 x4 x5 x6 : AV}   (hq : Q (.inl (some (zI 0))) 137 h) : Wp mL_law (kL L xs) Q (b1, b2) 1403 [x0, x1, x2, x3, x4, x5, x6] [] 137 h := by
  refine s_fgt (fgt_n _ (fgt_n _ (fgt_n _ (fgt_n _ (fgt_n _ (fgt_n _ (fgt_n _ fgt_0))))))) ?_
  refine s_iconst dL_law_1403 ?_
  exact s_ireturn dL_law_1404 ⟨.boolean, rfl, by decide⟩ hq (fun z => by cases z)
theorem bL_law_1405 {L b1 b2 : Nat} {xs : Nat → Int} {Q : RS → Nat → AH → Prop} {h : AH} (hL : L < 4000 := by omega) {l4 : Int} {x5 x6 : AV}   (kk : Wp mL_law (kL L xs) Q (b1, b2) 1771 [zR (-100), zR 1, zR 98, zR 137, zI l4, none, none] [] 137 h) : Wp mL_law (kL L xs) Q (b1, b2) 1405 [zR (-100), zR 1, zR 98, zR 137, zI l4, x5, x6] [] 137 h := by
  refine s_fgt (fgt_c (fgt_c (fgt_c (fgt_c (fgt_c (fgt_n _ (fgt_n _ fgt_0))))))) ?_
  exact s_goto (tgt := 1771) dL_law_1405 (by decide) kk
theorem bL_law_1408 {L b1 b2 : Nat} {xs : Nat → Int} {Q : RS → Nat → AH → Prop} {h : AH} (hL : L < 4000 := by omega) {l4 : Int} {x5 x6 : AV} {R : Int → AH → Prop}  (r1 : 0 ≤ l4 + 1 ∧ l4 + 1 < (L : Int) := by omega) (r2 : 0 ≤ l4 + 2 ∧ l4 + 2 < (L : Int) := by omega) (r3 : 0 ≤ l4 + 3 ∧ l4 + 3 < (L : Int) := by omega) (hS : Sp mL_stand true (1000 - 1) 8 48 [zR 1, zI (xs (l4 + 1).toNat), zI (xs (l4 + 2).toNat), zI (xs (l4 + 3).toNat), zR 137] 137 h (rI R)) (hf : 1 ≤ 1000 := by omega) (g1 : 8 ≤ b1 := by omega) (g2 : 48 ≤ b2 := by omega) (kk : ∀ (x : Int) (h' : AH), R x h' → Wp mL_law (kL L xs) Q (b1 - 8, b2 - 48) 1431 [zR (-100), zR 1, zR 98, zR 137, zI l4, none, none] [zI x] 137 h') : Wp mL_law (kL L xs) Q (b1, b2) 1408 [zR (-100), zR 1, zR 98, zR 137, zI l4, x5, x6] [] 137 h := by
  refine s_fgt (fgt_c (fgt_c (fgt_c (fgt_c (fgt_c (fgt_n _ (fgt_n _ fgt_0))))))) ?_
  refine s_aload_n (x := 1) dL_law_1408 rfl ?_
  refine s_aload_n (x := (-100)) dL_law_1409 rfl ?_
  refine s_iload (x := l4) dL_law_1410 rfl ?_
  refine s_iconst dL_law_1412 ?_
  refine s_iadd dL_law_1413 ?_
  refine s_sld (i := l4 + 1) rfl dL_law_1414 r1.1 r1.2 hL ?_
  refine s_aload_n (x := (-100)) dL_law_1415 rfl ?_
  refine s_iload (x := l4) dL_law_1416 rfl ?_
  refine s_iconst dL_law_1418 ?_
  refine s_iadd dL_law_1419 ?_
  refine s_sld (i := l4 + 2) rfl dL_law_1420 r2.1 r2.2 hL ?_
  refine s_aload_n (x := (-100)) dL_law_1421 rfl ?_
  refine s_iload (x := l4) dL_law_1422 rfl ?_
  refine s_iconst dL_law_1424 ?_
  refine s_iadd dL_law_1425 ?_
  refine s_sld (i := l4 + 3) rfl dL_law_1426 r3.1 r3.2 hL ?_
  refine s_aload_n (x := 137) dL_law_1427 rfl ?_
  exact s_callS (as := [zR 1, zI (xs (l4 + 1).toNat), zI (xs (l4 + 2).toNat), zI (xs (l4 + 3).toNat), zR 137]) (st := []) dL_law_1428 kL_163 rfl rfl (Nat.le_of_ble_eq_true rfl) hS (show 1000 - 1 + 1 ≤ 1000 by omega) g1 g2 (fun v n' h' hP _ => by obtain ⟨x, e, rfl, hR⟩ := hP; cases e; exact kk x h' hR) (fun E n' h' _ z => (rI_nt _ _ _ z).elim)
theorem bL_law_1431 {L b1 b2 : Nat} {xs : Nat → Int} {Q : RS → Nat → AH → Prop} {h : AH} (hL : L < 4000 := by omega) {l4 s0 : Int} {x5 x6 : AV} {R : Int → AH → Prop}  (r1 : 0 ≤ l4 + 1 ∧ l4 + 1 < (L : Int) := by omega) (r2 : 0 ≤ l4 + 2 ∧ l4 + 2 < (L : Int) := by omega) (r3 : 0 ≤ l4 + 3 ∧ l4 + 3 < (L : Int) := by omega) (hS : Sp mX12_stand true (1000 - 1) 0 0 [zR 98, zI (xs (l4 + 1).toNat), zI (xs (l4 + 2).toNat), zI (xs (l4 + 3).toNat)] 137 h (rI R)) (hf : 1 ≤ 1000 := by omega) (kk : ∀ (x : Int) (h' : AH), R x h' → Wp mL_law (kL L xs) Q (b1, b2) 1455 [zR (-100), zR 1, zR 98, zR 137, zI l4, zI s0, none] [zI x] 137 h') : Wp mL_law (kL L xs) Q (b1, b2) 1431 [zR (-100), zR 1, zR 98, zR 137, zI l4, x5, x6] [zI s0] 137 h := by
  refine s_fgt (fgt_c (fgt_c (fgt_c (fgt_c (fgt_c (fgt_n _ (fgt_n _ fgt_0))))))) ?_
  refine s_istore dL_law_1431 rfl (by decide) ?_
  refine s_aload_n (x := 98) dL_law_1433 rfl ?_
  refine s_aload_n (x := (-100)) dL_law_1434 rfl ?_
  refine s_iload (x := l4) dL_law_1435 rfl ?_
  refine s_iconst dL_law_1437 ?_
  refine s_iadd dL_law_1438 ?_
  refine s_sld (i := l4 + 1) rfl dL_law_1439 r1.1 r1.2 hL ?_
  refine s_aload_n (x := (-100)) dL_law_1440 rfl ?_
  refine s_iload (x := l4) dL_law_1441 rfl ?_
  refine s_iconst dL_law_1443 ?_
  refine s_iadd dL_law_1444 ?_
  refine s_sld (i := l4 + 2) rfl dL_law_1445 r2.1 r2.2 hL ?_
  refine s_aload_n (x := (-100)) dL_law_1446 rfl ?_
  refine s_iload (x := l4) dL_law_1447 rfl ?_
  refine s_iconst dL_law_1449 ?_
  refine s_iadd dL_law_1450 ?_
  refine s_sld (i := l4 + 3) rfl dL_law_1451 r3.1 r3.2 hL ?_
  exact s_callV (as := [zI (xs (l4 + 1).toNat), zI (xs (l4 + 2).toNat), zI (xs (l4 + 3).toNat)]) (st := []) (o := 98) dL_law_1452 kL_165 rfl ⟨12, 87, TX12, e98, rfl, by decide⟩ rfl rfl (Nat.le_of_ble_eq_true rfl) hS (show 1000 - 1 + 1 ≤ 1000 by omega) (Nat.zero_le _) (Nat.zero_le _) (fun v n' h' hP _ => by obtain ⟨x, e, rfl, hR⟩ := hP; cases e; exact kk x h' hR) (fun E n' h' _ z => (rI_nt _ _ _ z).elim)
theorem bL_law_1455 {L b1 b2 : Nat} {xs : Nat → Int} {Q : RS → Nat → AH → Prop} {h : AH} (hL : L < 4000 := by omega) {l4 l5 s0 : Int} {x6 : AV} {R : Int → AH → Prop}   (hS : Sp mX12_thrown true (1000 - 1) 0 0 [zR 98] 137 h (rI R)) (hf : 1 ≤ 1000 := by omega) (kk : ∀ (x : Int) (h' : AH), R x h' → Wp mL_law (kL L xs) Q (b1, b2) 1461 [zR (-100), zR 1, zR 98, zR 137, zI l4, zI l5, zI s0] [zI x] 137 h') : Wp mL_law (kL L xs) Q (b1, b2) 1455 [zR (-100), zR 1, zR 98, zR 137, zI l4, zI l5, x6] [zI s0] 137 h := by
  refine s_fgt (fgt_c (fgt_c (fgt_c (fgt_c (fgt_c (fgt_c (fgt_n _ fgt_0))))))) ?_
  refine s_istore dL_law_1455 rfl (by decide) ?_
  refine s_aload_n (x := 98) dL_law_1457 rfl ?_
  exact s_callV (as := []) (st := []) (o := 98) dL_law_1458 kL_96 rfl ⟨12, 87, TX12, e98, rfl, by decide⟩ rfl rfl (Nat.le_of_ble_eq_true rfl) hS (show 1000 - 1 + 1 ≤ 1000 by omega) (Nat.zero_le _) (Nat.zero_le _) (fun v n' h' hP _ => by obtain ⟨x, e, rfl, hR⟩ := hP; cases e; exact kk x h' hR) (fun E n' h' _ z => (rI_nt _ _ _ z).elim)
theorem bL_law_1461 {L b1 b2 : Nat} {xs : Nat → Int} {Q : RS → Nat → AH → Prop} {h : AH} (hL : L < 4000 := by omega) {l4 l5 l6 s0 : Int}  (r1 : -2147483648 ≤ s0 ∧ s0 < 2147483648 := by omega) (r2 : -2147483648 ≤ l5 ∧ l5 < 2147483648 := by omega) (kt : s0 = l5 → Wp mL_law (kL L xs) Q (b1, b2) 1468 [zR (-100), zR 1, zR 98, zR 137, zI l4, zI l5, zI l6] [] 137 h) (kf : ¬ s0 = l5 → Wp mL_law (kL L xs) Q (b1, b2) 1466 [zR (-100), zR 1, zR 98, zR 137, zI l4, zI l5, zI l6] [] 137 h) : Wp mL_law (kL L xs) Q (b1, b2) 1461 [zR (-100), zR 1, zR 98, zR 137, zI l4, zI l5, zI l6] [zI s0] 137 h := by
  refine s_iload (x := l5) dL_law_1461 rfl ?_
  exact s_icmp_eq (tgt := 1468) dL_law_1463 (by decide) r1 r2 kt kf
theorem bL_law_1466 {L b1 b2 : Nat} {xs : Nat → Int} {Q : RS → Nat → AH → Prop} {h : AH} (hL : L < 4000 := by omega) {x0 x1 x2 x3 x4 x5 x6 : AV}   (hq : Q (.inl (some (zI 0))) 137 h) : Wp mL_law (kL L xs) Q (b1, b2) 1466 [x0, x1, x2, x3, x4, x5, x6] [] 137 h := by
  refine s_fgt (fgt_n _ (fgt_n _ (fgt_n _ (fgt_n _ (fgt_n _ (fgt_n _ (fgt_n _ fgt_0))))))) ?_
  refine s_iconst dL_law_1466 ?_
  exact s_ireturn dL_law_1467 ⟨.boolean, rfl, by decide⟩ hq (fun z => by cases z)
theorem bL_law_1468 {L b1 b2 : Nat} {xs : Nat → Int} {Q : RS → Nat → AH → Prop} {h : AH} (hL : L < 4000 := by omega) {l4 l5 l6 : Int}  (r1 : -2147483648 ≤ l5 ∧ l5 < 2147483648 := by omega) (kt : ¬ l5 = 0 → Wp mL_law (kL L xs) Q (b1, b2) 1492 [zR (-100), zR 1, zR 98, zR 137, zI l4, zI l5, zI l6] [] 137 h) (kf : l5 = 0 → Wp mL_law (kL L xs) Q (b1, b2) 1473 [zR (-100), zR 1, zR 98, zR 137, zI l4, zI l5, zI l6] [] 137 h) : Wp mL_law (kL L xs) Q (b1, b2) 1468 [zR (-100), zR 1, zR 98, zR 137, zI l4, zI l5, zI l6] [] 137 h := by
  refine s_iload (x := l5) dL_law_1468 rfl ?_
  exact s_if_ne (tgt := 1492) dL_law_1470 (by decide) r1 kt kf
theorem bL_law_1473 {L b1 b2 : Nat} {xs : Nat → Int} {Q : RS → Nat → AH → Prop} {h : AH} (hL : L < 4000 := by omega) {l4 l6 : Int} {x5 : AV}  (r1 : -2147483648 ≤ l6 ∧ l6 < 2147483648 := by omega) (kt : l6 = 0 → Wp mL_law (kL L xs) Q (b1, b2) 1485 [zR (-100), zR 1, zR 98, zR 137, zI l4, none, zI l6] [zL (h 137 0)] 137 h) (kf : ¬ l6 = 0 → Wp mL_law (kL L xs) Q (b1, b2) 1481 [zR (-100), zR 1, zR 98, zR 137, zI l4, none, zI l6] [zL (h 137 0)] 137 h) : Wp mL_law (kL L xs) Q (b1, b2) 1473 [zR (-100), zR 1, zR 98, zR 137, zI l4, x5, zI l6] [] 137 h := by
  refine s_fgt (fgt_c (fgt_c (fgt_c (fgt_c (fgt_c (fgt_n _ (fgt_c fgt_0))))))) ?_
  refine s_aload_n (x := 137) dL_law_1473 rfl ?_
  refine s_iconst dL_law_1474 ?_
  refine s_lald (c := 137) (i := 0) dL_law_1475 e137 (by decide) (by decide) ?_
  refine s_iload (x := l6) dL_law_1476 rfl ?_
  exact s_if_eq (tgt := 1485) dL_law_1478 (by decide) r1 kt kf
theorem bL_law_1481 {L b1 b2 : Nat} {xs : Nat → Int} {Q : RS → Nat → AH → Prop} {h : AH} (hL : L < 4000 := by omega) {l4 s0 : Int} {x5 x6 : AV}   (kk : Wp mL_law (kL L xs) Q (b1, b2) 1486 [zR (-100), zR 1, zR 98, zR 137, zI l4, none, none] [zL 1, zL s0] 137 h) : Wp mL_law (kL L xs) Q (b1, b2) 1481 [zR (-100), zR 1, zR 98, zR 137, zI l4, x5, x6] [zL s0] 137 h := by
  refine s_fgt (fgt_c (fgt_c (fgt_c (fgt_c (fgt_c (fgt_n _ (fgt_n _ fgt_0))))))) ?_
  refine s_lconst (v := 1) dL_law_1481 (by decide) ?_
  exact s_goto (tgt := 1486) dL_law_1482 (by decide) kk
theorem bL_law_1485 {L b1 b2 : Nat} {xs : Nat → Int} {Q : RS → Nat → AH → Prop} {h : AH} (hL : L < 4000 := by omega) {l4 s0 : Int} {x5 x6 : AV}   (kk : Wp mL_law (kL L xs) Q (b1, b2) 1486 [zR (-100), zR 1, zR 98, zR 137, zI l4, none, none] [zL 0, zL s0] 137 h) : Wp mL_law (kL L xs) Q (b1, b2) 1485 [zR (-100), zR 1, zR 98, zR 137, zI l4, x5, x6] [zL s0] 137 h := by
  refine s_fgt (fgt_c (fgt_c (fgt_c (fgt_c (fgt_c (fgt_n _ (fgt_n _ fgt_0))))))) ?_
  refine s_lconst (v := 0) dL_law_1485 (by decide) ?_
  exact kk
theorem bL_law_1486 {L b1 b2 : Nat} {xs : Nat → Int} {Q : RS → Nat → AH → Prop} {h : AH} (hL : L < 4000 := by omega) {l4 s1 s0 : Int} {x5 x6 : AV}  (r1 : -2147483648 ≤ (lg_cmp (Int64.ofInt s1) (Int64.ofInt s0)).toInt ∧ (lg_cmp (Int64.ofInt s1) (Int64.ofInt s0)).toInt < 2147483648 := by omega) (kt : (lg_cmp (Int64.ofInt s1) (Int64.ofInt s0)).toInt = 0 → Wp mL_law (kL L xs) Q (b1, b2) 1492 [zR (-100), zR 1, zR 98, zR 137, zI l4, none, none] [] 137 h) (kf : ¬ (lg_cmp (Int64.ofInt s1) (Int64.ofInt s0)).toInt = 0 → Wp mL_law (kL L xs) Q (b1, b2) 1490 [zR (-100), zR 1, zR 98, zR 137, zI l4, none, none] [] 137 h) : Wp mL_law (kL L xs) Q (b1, b2) 1486 [zR (-100), zR 1, zR 98, zR 137, zI l4, x5, x6] [zL s0, zL s1] 137 h := by
  refine s_fgt (fgt_c (fgt_c (fgt_c (fgt_c (fgt_c (fgt_n _ (fgt_n _ fgt_0))))))) ?_
  refine s_lcmp dL_law_1486 ?_
  exact s_if_eq (tgt := 1492) dL_law_1487 (by decide) r1 kt kf
theorem bL_law_1490 {L b1 b2 : Nat} {xs : Nat → Int} {Q : RS → Nat → AH → Prop} {h : AH} (hL : L < 4000 := by omega) {x0 x1 x2 x3 x4 x5 x6 : AV}   (hq : Q (.inl (some (zI 0))) 137 h) : Wp mL_law (kL L xs) Q (b1, b2) 1490 [x0, x1, x2, x3, x4, x5, x6] [] 137 h := by
  refine s_fgt (fgt_n _ (fgt_n _ (fgt_n _ (fgt_n _ (fgt_n _ (fgt_n _ (fgt_n _ fgt_0))))))) ?_
  refine s_iconst dL_law_1490 ?_
  exact s_ireturn dL_law_1491 ⟨.boolean, rfl, by decide⟩ hq (fun z => by cases z)
theorem bL_law_1492 {L b1 b2 : Nat} {xs : Nat → Int} {Q : RS → Nat → AH → Prop} {h : AH} (hL : L < 4000 := by omega) {l4 : Int} {x5 x6 : AV}   (kk : Wp mL_law (kL L xs) Q (b1, b2) 1771 [zR (-100), zR 1, zR 98, zR 137, zI l4, none, none] [] 137 h) : Wp mL_law (kL L xs) Q (b1, b2) 1492 [zR (-100), zR 1, zR 98, zR 137, zI l4, x5, x6] [] 137 h := by
  refine s_fgt (fgt_c (fgt_c (fgt_c (fgt_c (fgt_c (fgt_n _ (fgt_n _ fgt_0))))))) ?_
  exact s_goto (tgt := 1771) dL_law_1492 (by decide) kk
theorem bL_law_1495 {L b1 b2 : Nat} {xs : Nat → Int} {Q : RS → Nat → AH → Prop} {h : AH} (hL : L < 4000 := by omega) {l4 : Int} {x5 x6 : AV} {R : Int → AH → Prop}  (r1 : 0 ≤ l4 + 1 ∧ l4 + 1 < (L : Int) := by omega) (r2 : 0 ≤ l4 + 2 ∧ l4 + 2 < (L : Int) := by omega) (r3 : 0 ≤ l4 + 3 ∧ l4 + 3 < (L : Int) := by omega) (hS : Sp mL_matching true (1000 - 1) 8 48 [zR 1, zI (xs (l4 + 1).toNat), zI (xs (l4 + 2).toNat), zI (xs (l4 + 3).toNat), zR 137] 137 h (rI R)) (hf : 1 ≤ 1000 := by omega) (g1 : 8 ≤ b1 := by omega) (g2 : 48 ≤ b2 := by omega) (kk : ∀ (x : Int) (h' : AH), R x h' → Wp mL_law (kL L xs) Q (b1 - 8, b2 - 48) 1518 [zR (-100), zR 1, zR 98, zR 137, zI l4, none, none] [zI x] 137 h') : Wp mL_law (kL L xs) Q (b1, b2) 1495 [zR (-100), zR 1, zR 98, zR 137, zI l4, x5, x6] [] 137 h := by
  refine s_fgt (fgt_c (fgt_c (fgt_c (fgt_c (fgt_c (fgt_n _ (fgt_n _ fgt_0))))))) ?_
  refine s_aload_n (x := 1) dL_law_1495 rfl ?_
  refine s_aload_n (x := (-100)) dL_law_1496 rfl ?_
  refine s_iload (x := l4) dL_law_1497 rfl ?_
  refine s_iconst dL_law_1499 ?_
  refine s_iadd dL_law_1500 ?_
  refine s_sld (i := l4 + 1) rfl dL_law_1501 r1.1 r1.2 hL ?_
  refine s_aload_n (x := (-100)) dL_law_1502 rfl ?_
  refine s_iload (x := l4) dL_law_1503 rfl ?_
  refine s_iconst dL_law_1505 ?_
  refine s_iadd dL_law_1506 ?_
  refine s_sld (i := l4 + 2) rfl dL_law_1507 r2.1 r2.2 hL ?_
  refine s_aload_n (x := (-100)) dL_law_1508 rfl ?_
  refine s_iload (x := l4) dL_law_1509 rfl ?_
  refine s_iconst dL_law_1511 ?_
  refine s_iadd dL_law_1512 ?_
  refine s_sld (i := l4 + 3) rfl dL_law_1513 r3.1 r3.2 hL ?_
  refine s_aload_n (x := 137) dL_law_1514 rfl ?_
  exact s_callS (as := [zR 1, zI (xs (l4 + 1).toNat), zI (xs (l4 + 2).toNat), zI (xs (l4 + 3).toNat), zR 137]) (st := []) dL_law_1515 kL_166 rfl rfl (Nat.le_of_ble_eq_true rfl) hS (show 1000 - 1 + 1 ≤ 1000 by omega) g1 g2 (fun v n' h' hP _ => by obtain ⟨x, e, rfl, hR⟩ := hP; cases e; exact kk x h' hR) (fun E n' h' _ z => (rI_nt _ _ _ z).elim)
theorem bL_law_1518 {L b1 b2 : Nat} {xs : Nat → Int} {Q : RS → Nat → AH → Prop} {h : AH} (hL : L < 4000 := by omega) {l4 s0 : Int} {x5 x6 : AV} {R : Int → AH → Prop}  (r1 : 0 ≤ l4 + 1 ∧ l4 + 1 < (L : Int) := by omega) (r2 : 0 ≤ l4 + 2 ∧ l4 + 2 < (L : Int) := by omega) (r3 : 0 ≤ l4 + 3 ∧ l4 + 3 < (L : Int) := by omega) (hS : Sp mX12_matching true (1000 - 1) 0 0 [zR 98, zI (xs (l4 + 1).toNat), zI (xs (l4 + 2).toNat), zI (xs (l4 + 3).toNat)] 137 h (rI R)) (hf : 1 ≤ 1000 := by omega) (kk : ∀ (x : Int) (h' : AH), R x h' → Wp mL_law (kL L xs) Q (b1, b2) 1542 [zR (-100), zR 1, zR 98, zR 137, zI l4, zI s0, none] [zI x] 137 h') : Wp mL_law (kL L xs) Q (b1, b2) 1518 [zR (-100), zR 1, zR 98, zR 137, zI l4, x5, x6] [zI s0] 137 h := by
  refine s_fgt (fgt_c (fgt_c (fgt_c (fgt_c (fgt_c (fgt_n _ (fgt_n _ fgt_0))))))) ?_
  refine s_istore dL_law_1518 rfl (by decide) ?_
  refine s_aload_n (x := 98) dL_law_1520 rfl ?_
  refine s_aload_n (x := (-100)) dL_law_1521 rfl ?_
  refine s_iload (x := l4) dL_law_1522 rfl ?_
  refine s_iconst dL_law_1524 ?_
  refine s_iadd dL_law_1525 ?_
  refine s_sld (i := l4 + 1) rfl dL_law_1526 r1.1 r1.2 hL ?_
  refine s_aload_n (x := (-100)) dL_law_1527 rfl ?_
  refine s_iload (x := l4) dL_law_1528 rfl ?_
  refine s_iconst dL_law_1530 ?_
  refine s_iadd dL_law_1531 ?_
  refine s_sld (i := l4 + 2) rfl dL_law_1532 r2.1 r2.2 hL ?_
  refine s_aload_n (x := (-100)) dL_law_1533 rfl ?_
  refine s_iload (x := l4) dL_law_1534 rfl ?_
  refine s_iconst dL_law_1536 ?_
  refine s_iadd dL_law_1537 ?_
  refine s_sld (i := l4 + 3) rfl dL_law_1538 r3.1 r3.2 hL ?_
  exact s_callV (as := [zI (xs (l4 + 1).toNat), zI (xs (l4 + 2).toNat), zI (xs (l4 + 3).toNat)]) (st := []) (o := 98) dL_law_1539 kL_168 rfl ⟨12, 87, TX12, e98, rfl, by decide⟩ rfl rfl (Nat.le_of_ble_eq_true rfl) hS (show 1000 - 1 + 1 ≤ 1000 by omega) (Nat.zero_le _) (Nat.zero_le _) (fun v n' h' hP _ => by obtain ⟨x, e, rfl, hR⟩ := hP; cases e; exact kk x h' hR) (fun E n' h' _ z => (rI_nt _ _ _ z).elim)
theorem bL_law_1542 {L b1 b2 : Nat} {xs : Nat → Int} {Q : RS → Nat → AH → Prop} {h : AH} (hL : L < 4000 := by omega) {l4 l5 s0 : Int} {x6 : AV} {R : Int → AH → Prop}   (hS : Sp mX12_thrown true (1000 - 1) 0 0 [zR 98] 137 h (rI R)) (hf : 1 ≤ 1000 := by omega) (kk : ∀ (x : Int) (h' : AH), R x h' → Wp mL_law (kL L xs) Q (b1, b2) 1548 [zR (-100), zR 1, zR 98, zR 137, zI l4, zI l5, zI s0] [zI x] 137 h') : Wp mL_law (kL L xs) Q (b1, b2) 1542 [zR (-100), zR 1, zR 98, zR 137, zI l4, zI l5, x6] [zI s0] 137 h := by
  refine s_fgt (fgt_c (fgt_c (fgt_c (fgt_c (fgt_c (fgt_c (fgt_n _ fgt_0))))))) ?_
  refine s_istore dL_law_1542 rfl (by decide) ?_
  refine s_aload_n (x := 98) dL_law_1544 rfl ?_
  exact s_callV (as := []) (st := []) (o := 98) dL_law_1545 kL_96 rfl ⟨12, 87, TX12, e98, rfl, by decide⟩ rfl rfl (Nat.le_of_ble_eq_true rfl) hS (show 1000 - 1 + 1 ≤ 1000 by omega) (Nat.zero_le _) (Nat.zero_le _) (fun v n' h' hP _ => by obtain ⟨x, e, rfl, hR⟩ := hP; cases e; exact kk x h' hR) (fun E n' h' _ z => (rI_nt _ _ _ z).elim)
theorem bL_law_1548 {L b1 b2 : Nat} {xs : Nat → Int} {Q : RS → Nat → AH → Prop} {h : AH} (hL : L < 4000 := by omega) {l4 l5 l6 s0 : Int}  (r1 : -2147483648 ≤ s0 ∧ s0 < 2147483648 := by omega) (r2 : -2147483648 ≤ l5 ∧ l5 < 2147483648 := by omega) (kt : s0 = l5 → Wp mL_law (kL L xs) Q (b1, b2) 1555 [zR (-100), zR 1, zR 98, zR 137, zI l4, zI l5, zI l6] [] 137 h) (kf : ¬ s0 = l5 → Wp mL_law (kL L xs) Q (b1, b2) 1553 [zR (-100), zR 1, zR 98, zR 137, zI l4, zI l5, zI l6] [] 137 h) : Wp mL_law (kL L xs) Q (b1, b2) 1548 [zR (-100), zR 1, zR 98, zR 137, zI l4, zI l5, zI l6] [zI s0] 137 h := by
  refine s_iload (x := l5) dL_law_1548 rfl ?_
  exact s_icmp_eq (tgt := 1555) dL_law_1550 (by decide) r1 r2 kt kf
theorem bL_law_1553 {L b1 b2 : Nat} {xs : Nat → Int} {Q : RS → Nat → AH → Prop} {h : AH} (hL : L < 4000 := by omega) {x0 x1 x2 x3 x4 x5 x6 : AV}   (hq : Q (.inl (some (zI 0))) 137 h) : Wp mL_law (kL L xs) Q (b1, b2) 1553 [x0, x1, x2, x3, x4, x5, x6] [] 137 h := by
  refine s_fgt (fgt_n _ (fgt_n _ (fgt_n _ (fgt_n _ (fgt_n _ (fgt_n _ (fgt_n _ fgt_0))))))) ?_
  refine s_iconst dL_law_1553 ?_
  exact s_ireturn dL_law_1554 ⟨.boolean, rfl, by decide⟩ hq (fun z => by cases z)
theorem bL_law_1555 {L b1 b2 : Nat} {xs : Nat → Int} {Q : RS → Nat → AH → Prop} {h : AH} (hL : L < 4000 := by omega) {l4 l5 l6 : Int}  (r1 : -2147483648 ≤ l5 ∧ l5 < 2147483648 := by omega) (kt : ¬ l5 = 0 → Wp mL_law (kL L xs) Q (b1, b2) 1572 [zR (-100), zR 1, zR 98, zR 137, zI l4, zI l5, zI l6] [] 137 h) (kf : l5 = 0 → Wp mL_law (kL L xs) Q (b1, b2) 1560 [zR (-100), zR 1, zR 98, zR 137, zI l4, zI l5, zI l6] [] 137 h) : Wp mL_law (kL L xs) Q (b1, b2) 1555 [zR (-100), zR 1, zR 98, zR 137, zI l4, zI l5, zI l6] [] 137 h := by
  refine s_iload (x := l5) dL_law_1555 rfl ?_
  exact s_if_ne (tgt := 1572) dL_law_1557 (by decide) r1 kt kf
theorem bL_law_1560 {L b1 b2 : Nat} {xs : Nat → Int} {Q : RS → Nat → AH → Prop} {h : AH} (hL : L < 4000 := by omega) {l4 l6 : Int} {x5 : AV}  (r1 : -2147483648 ≤ (lg_cmp (Int64.ofInt (h 137 0)) (Int64.ofInt (i2l l6))).toInt ∧ (lg_cmp (Int64.ofInt (h 137 0)) (Int64.ofInt (i2l l6))).toInt < 2147483648 := by omega) (kt : (lg_cmp (Int64.ofInt (h 137 0)) (Int64.ofInt (i2l l6))).toInt = 0 → Wp mL_law (kL L xs) Q (b1, b2) 1572 [zR (-100), zR 1, zR 98, zR 137, zI l4, none, zI l6] [] 137 h) (kf : ¬ (lg_cmp (Int64.ofInt (h 137 0)) (Int64.ofInt (i2l l6))).toInt = 0 → Wp mL_law (kL L xs) Q (b1, b2) 1570 [zR (-100), zR 1, zR 98, zR 137, zI l4, none, zI l6] [] 137 h) : Wp mL_law (kL L xs) Q (b1, b2) 1560 [zR (-100), zR 1, zR 98, zR 137, zI l4, x5, zI l6] [] 137 h := by
  refine s_fgt (fgt_c (fgt_c (fgt_c (fgt_c (fgt_c (fgt_n _ (fgt_c fgt_0))))))) ?_
  refine s_aload_n (x := 137) dL_law_1560 rfl ?_
  refine s_iconst dL_law_1561 ?_
  refine s_lald (c := 137) (i := 0) dL_law_1562 e137 (by decide) (by decide) ?_
  refine s_iload (x := l6) dL_law_1563 rfl ?_
  refine s_i2l dL_law_1565 ?_
  refine s_lcmp dL_law_1566 ?_
  exact s_if_eq (tgt := 1572) dL_law_1567 (by decide) r1 kt kf
theorem bL_law_1570 {L b1 b2 : Nat} {xs : Nat → Int} {Q : RS → Nat → AH → Prop} {h : AH} (hL : L < 4000 := by omega) {x0 x1 x2 x3 x4 x5 x6 : AV}   (hq : Q (.inl (some (zI 0))) 137 h) : Wp mL_law (kL L xs) Q (b1, b2) 1570 [x0, x1, x2, x3, x4, x5, x6] [] 137 h := by
  refine s_fgt (fgt_n _ (fgt_n _ (fgt_n _ (fgt_n _ (fgt_n _ (fgt_n _ (fgt_n _ fgt_0))))))) ?_
  refine s_iconst dL_law_1570 ?_
  exact s_ireturn dL_law_1571 ⟨.boolean, rfl, by decide⟩ hq (fun z => by cases z)
theorem bL_law_1572 {L b1 b2 : Nat} {xs : Nat → Int} {Q : RS → Nat → AH → Prop} {h : AH} (hL : L < 4000 := by omega) {l4 : Int} {x5 x6 : AV}   (kk : Wp mL_law (kL L xs) Q (b1, b2) 1771 [zR (-100), zR 1, zR 98, zR 137, zI l4, none, none] [] 137 h) : Wp mL_law (kL L xs) Q (b1, b2) 1572 [zR (-100), zR 1, zR 98, zR 137, zI l4, x5, x6] [] 137 h := by
  refine s_fgt (fgt_c (fgt_c (fgt_c (fgt_c (fgt_c (fgt_n _ (fgt_n _ fgt_0))))))) ?_
  exact s_goto (tgt := 1771) dL_law_1572 (by decide) kk
theorem bL_law_1575 {L b1 b2 : Nat} {xs : Nat → Int} {Q : RS → Nat → AH → Prop} {h : AH} (hL : L < 4000 := by omega) {l4 : Int} {x5 x6 : AV} {R : Int → AH → Prop}  (r1 : 0 ≤ l4 + 1 ∧ l4 + 1 < (L : Int) := by omega) (r2 : 0 ≤ l4 + 2 ∧ l4 + 2 < (L : Int) := by omega) (r3 : 0 ≤ l4 + 3 ∧ l4 + 3 < (L : Int) := by omega) (r4 : 0 ≤ l4 + 4 ∧ l4 + 4 < (L : Int) := by omega) (r5 : 0 ≤ l4 + 5 ∧ l4 + 5 < (L : Int) := by omega) (hS : Sp mL_moved true (1000 - 1) 8 48 [zR 1, zI (xs (l4 + 1).toNat), zI (xs (l4 + 2).toNat), zI (xs (l4 + 3).toNat), zI (xs (l4 + 4).toNat), zI (xs (l4 + 5).toNat), zR 137] 137 h (rI R)) (hf : 1 ≤ 1000 := by omega) (g1 : 8 ≤ b1 := by omega) (g2 : 48 ≤ b2 := by omega) (kk : ∀ (x : Int) (h' : AH), R x h' → Wp mL_law (kL L xs) Q (b1 - 8, b2 - 48) 1610 [zR (-100), zR 1, zR 98, zR 137, zI l4, none, none] [zI x] 137 h') : Wp mL_law (kL L xs) Q (b1, b2) 1575 [zR (-100), zR 1, zR 98, zR 137, zI l4, x5, x6] [] 137 h := by
  refine s_fgt (fgt_c (fgt_c (fgt_c (fgt_c (fgt_c (fgt_n _ (fgt_n _ fgt_0))))))) ?_
  refine s_aload_n (x := 1) dL_law_1575 rfl ?_
  refine s_aload_n (x := (-100)) dL_law_1576 rfl ?_
  refine s_iload (x := l4) dL_law_1577 rfl ?_
  refine s_iconst dL_law_1579 ?_
  refine s_iadd dL_law_1580 ?_
  refine s_sld (i := l4 + 1) rfl dL_law_1581 r1.1 r1.2 hL ?_
  refine s_aload_n (x := (-100)) dL_law_1582 rfl ?_
  refine s_iload (x := l4) dL_law_1583 rfl ?_
  refine s_iconst dL_law_1585 ?_
  refine s_iadd dL_law_1586 ?_
  refine s_sld (i := l4 + 2) rfl dL_law_1587 r2.1 r2.2 hL ?_
  refine s_aload_n (x := (-100)) dL_law_1588 rfl ?_
  refine s_iload (x := l4) dL_law_1589 rfl ?_
  refine s_iconst dL_law_1591 ?_
  refine s_iadd dL_law_1592 ?_
  refine s_sld (i := l4 + 3) rfl dL_law_1593 r3.1 r3.2 hL ?_
  refine s_aload_n (x := (-100)) dL_law_1594 rfl ?_
  refine s_iload (x := l4) dL_law_1595 rfl ?_
  refine s_iconst dL_law_1597 ?_
  refine s_iadd dL_law_1598 ?_
  refine s_sld (i := l4 + 4) rfl dL_law_1599 r4.1 r4.2 hL ?_
  refine s_aload_n (x := (-100)) dL_law_1600 rfl ?_
  refine s_iload (x := l4) dL_law_1601 rfl ?_
  refine s_iconst dL_law_1603 ?_
  refine s_iadd dL_law_1604 ?_
  refine s_sld (i := l4 + 5) rfl dL_law_1605 r5.1 r5.2 hL ?_
  refine s_aload_n (x := 137) dL_law_1606 rfl ?_
  exact s_callS (as := [zR 1, zI (xs (l4 + 1).toNat), zI (xs (l4 + 2).toNat), zI (xs (l4 + 3).toNat), zI (xs (l4 + 4).toNat), zI (xs (l4 + 5).toNat), zR 137]) (st := []) dL_law_1607 kL_169 rfl rfl (Nat.le_of_ble_eq_true rfl) hS (show 1000 - 1 + 1 ≤ 1000 by omega) g1 g2 (fun v n' h' hP _ => by obtain ⟨x, e, rfl, hR⟩ := hP; cases e; exact kk x h' hR) (fun E n' h' _ z => (rI_nt _ _ _ z).elim)
theorem bL_law_1610 {L b1 b2 : Nat} {xs : Nat → Int} {Q : RS → Nat → AH → Prop} {h : AH} (hL : L < 4000 := by omega) {l4 s0 : Int} {x5 x6 : AV} {R : Int → AH → Prop}  (r1 : 0 ≤ l4 + 1 ∧ l4 + 1 < (L : Int) := by omega) (r2 : 0 ≤ l4 + 2 ∧ l4 + 2 < (L : Int) := by omega) (r3 : 0 ≤ l4 + 3 ∧ l4 + 3 < (L : Int) := by omega) (r4 : 0 ≤ l4 + 4 ∧ l4 + 4 < (L : Int) := by omega) (r5 : 0 ≤ l4 + 5 ∧ l4 + 5 < (L : Int) := by omega) (hS : Sp mX12_moved true (1000 - 1) 0 0 [zR 98, zI (xs (l4 + 1).toNat), zI (xs (l4 + 2).toNat), zI (xs (l4 + 3).toNat), zI (xs (l4 + 4).toNat), zI (xs (l4 + 5).toNat)] 137 h (rI R)) (hf : 1 ≤ 1000 := by omega) (kk : ∀ (x : Int) (h' : AH), R x h' → Wp mL_law (kL L xs) Q (b1, b2) 1646 [zR (-100), zR 1, zR 98, zR 137, zI l4, zI s0, none] [zI x] 137 h') : Wp mL_law (kL L xs) Q (b1, b2) 1610 [zR (-100), zR 1, zR 98, zR 137, zI l4, x5, x6] [zI s0] 137 h := by
  refine s_fgt (fgt_c (fgt_c (fgt_c (fgt_c (fgt_c (fgt_n _ (fgt_n _ fgt_0))))))) ?_
  refine s_istore dL_law_1610 rfl (by decide) ?_
  refine s_aload_n (x := 98) dL_law_1612 rfl ?_
  refine s_aload_n (x := (-100)) dL_law_1613 rfl ?_
  refine s_iload (x := l4) dL_law_1614 rfl ?_
  refine s_iconst dL_law_1616 ?_
  refine s_iadd dL_law_1617 ?_
  refine s_sld (i := l4 + 1) rfl dL_law_1618 r1.1 r1.2 hL ?_
  refine s_aload_n (x := (-100)) dL_law_1619 rfl ?_
  refine s_iload (x := l4) dL_law_1620 rfl ?_
  refine s_iconst dL_law_1622 ?_
  refine s_iadd dL_law_1623 ?_
  refine s_sld (i := l4 + 2) rfl dL_law_1624 r2.1 r2.2 hL ?_
  refine s_aload_n (x := (-100)) dL_law_1625 rfl ?_
  refine s_iload (x := l4) dL_law_1626 rfl ?_
  refine s_iconst dL_law_1628 ?_
  refine s_iadd dL_law_1629 ?_
  refine s_sld (i := l4 + 3) rfl dL_law_1630 r3.1 r3.2 hL ?_
  refine s_aload_n (x := (-100)) dL_law_1631 rfl ?_
  refine s_iload (x := l4) dL_law_1632 rfl ?_
  refine s_iconst dL_law_1634 ?_
  refine s_iadd dL_law_1635 ?_
  refine s_sld (i := l4 + 4) rfl dL_law_1636 r4.1 r4.2 hL ?_
  refine s_aload_n (x := (-100)) dL_law_1637 rfl ?_
  refine s_iload (x := l4) dL_law_1638 rfl ?_
  refine s_iconst dL_law_1640 ?_
  refine s_iadd dL_law_1641 ?_
  refine s_sld (i := l4 + 5) rfl dL_law_1642 r5.1 r5.2 hL ?_
  exact s_callV (as := [zI (xs (l4 + 1).toNat), zI (xs (l4 + 2).toNat), zI (xs (l4 + 3).toNat), zI (xs (l4 + 4).toNat), zI (xs (l4 + 5).toNat)]) (st := []) (o := 98) dL_law_1643 kL_172 rfl ⟨12, 87, TX12, e98, rfl, by decide⟩ rfl rfl (Nat.le_of_ble_eq_true rfl) hS (show 1000 - 1 + 1 ≤ 1000 by omega) (Nat.zero_le _) (Nat.zero_le _) (fun v n' h' hP _ => by obtain ⟨x, e, rfl, hR⟩ := hP; cases e; exact kk x h' hR) (fun E n' h' _ z => (rI_nt _ _ _ z).elim)
theorem bL_law_1646 {L b1 b2 : Nat} {xs : Nat → Int} {Q : RS → Nat → AH → Prop} {h : AH} (hL : L < 4000 := by omega) {l4 l5 s0 : Int} {x6 : AV} {R : Int → AH → Prop}   (hS : Sp mX12_thrown true (1000 - 1) 0 0 [zR 98] 137 h (rI R)) (hf : 1 ≤ 1000 := by omega) (kk : ∀ (x : Int) (h' : AH), R x h' → Wp mL_law (kL L xs) Q (b1, b2) 1652 [zR (-100), zR 1, zR 98, zR 137, zI l4, zI l5, zI s0] [zI x] 137 h') : Wp mL_law (kL L xs) Q (b1, b2) 1646 [zR (-100), zR 1, zR 98, zR 137, zI l4, zI l5, x6] [zI s0] 137 h := by
  refine s_fgt (fgt_c (fgt_c (fgt_c (fgt_c (fgt_c (fgt_c (fgt_n _ fgt_0))))))) ?_
  refine s_istore dL_law_1646 rfl (by decide) ?_
  refine s_aload_n (x := 98) dL_law_1648 rfl ?_
  exact s_callV (as := []) (st := []) (o := 98) dL_law_1649 kL_96 rfl ⟨12, 87, TX12, e98, rfl, by decide⟩ rfl rfl (Nat.le_of_ble_eq_true rfl) hS (show 1000 - 1 + 1 ≤ 1000 by omega) (Nat.zero_le _) (Nat.zero_le _) (fun v n' h' hP _ => by obtain ⟨x, e, rfl, hR⟩ := hP; cases e; exact kk x h' hR) (fun E n' h' _ z => (rI_nt _ _ _ z).elim)
theorem bL_law_1652 {L b1 b2 : Nat} {xs : Nat → Int} {Q : RS → Nat → AH → Prop} {h : AH} (hL : L < 4000 := by omega) {l4 l5 l6 s0 : Int}  (r1 : -2147483648 ≤ s0 ∧ s0 < 2147483648 := by omega) (r2 : -2147483648 ≤ l5 ∧ l5 < 2147483648 := by omega) (kt : s0 = l5 → Wp mL_law (kL L xs) Q (b1, b2) 1659 [zR (-100), zR 1, zR 98, zR 137, zI l4, zI l5, zI l6] [] 137 h) (kf : ¬ s0 = l5 → Wp mL_law (kL L xs) Q (b1, b2) 1657 [zR (-100), zR 1, zR 98, zR 137, zI l4, zI l5, zI l6] [] 137 h) : Wp mL_law (kL L xs) Q (b1, b2) 1652 [zR (-100), zR 1, zR 98, zR 137, zI l4, zI l5, zI l6] [zI s0] 137 h := by
  refine s_iload (x := l5) dL_law_1652 rfl ?_
  exact s_icmp_eq (tgt := 1659) dL_law_1654 (by decide) r1 r2 kt kf
theorem bL_law_1657 {L b1 b2 : Nat} {xs : Nat → Int} {Q : RS → Nat → AH → Prop} {h : AH} (hL : L < 4000 := by omega) {x0 x1 x2 x3 x4 x5 x6 : AV}   (hq : Q (.inl (some (zI 0))) 137 h) : Wp mL_law (kL L xs) Q (b1, b2) 1657 [x0, x1, x2, x3, x4, x5, x6] [] 137 h := by
  refine s_fgt (fgt_n _ (fgt_n _ (fgt_n _ (fgt_n _ (fgt_n _ (fgt_n _ (fgt_n _ fgt_0))))))) ?_
  refine s_iconst dL_law_1657 ?_
  exact s_ireturn dL_law_1658 ⟨.boolean, rfl, by decide⟩ hq (fun z => by cases z)
theorem bL_law_1659 {L b1 b2 : Nat} {xs : Nat → Int} {Q : RS → Nat → AH → Prop} {h : AH} (hL : L < 4000 := by omega) {l4 l5 l6 : Int}  (r1 : -2147483648 ≤ l5 ∧ l5 < 2147483648 := by omega) (kt : ¬ l5 = 0 → Wp mL_law (kL L xs) Q (b1, b2) 1676 [zR (-100), zR 1, zR 98, zR 137, zI l4, zI l5, zI l6] [] 137 h) (kf : l5 = 0 → Wp mL_law (kL L xs) Q (b1, b2) 1664 [zR (-100), zR 1, zR 98, zR 137, zI l4, zI l5, zI l6] [] 137 h) : Wp mL_law (kL L xs) Q (b1, b2) 1659 [zR (-100), zR 1, zR 98, zR 137, zI l4, zI l5, zI l6] [] 137 h := by
  refine s_iload (x := l5) dL_law_1659 rfl ?_
  exact s_if_ne (tgt := 1676) dL_law_1661 (by decide) r1 kt kf
theorem bL_law_1664 {L b1 b2 : Nat} {xs : Nat → Int} {Q : RS → Nat → AH → Prop} {h : AH} (hL : L < 4000 := by omega) {l4 l6 : Int} {x5 : AV}  (r1 : -2147483648 ≤ (lg_cmp (Int64.ofInt (h 137 0)) (Int64.ofInt (i2l l6))).toInt ∧ (lg_cmp (Int64.ofInt (h 137 0)) (Int64.ofInt (i2l l6))).toInt < 2147483648 := by omega) (kt : (lg_cmp (Int64.ofInt (h 137 0)) (Int64.ofInt (i2l l6))).toInt = 0 → Wp mL_law (kL L xs) Q (b1, b2) 1676 [zR (-100), zR 1, zR 98, zR 137, zI l4, none, zI l6] [] 137 h) (kf : ¬ (lg_cmp (Int64.ofInt (h 137 0)) (Int64.ofInt (i2l l6))).toInt = 0 → Wp mL_law (kL L xs) Q (b1, b2) 1674 [zR (-100), zR 1, zR 98, zR 137, zI l4, none, zI l6] [] 137 h) : Wp mL_law (kL L xs) Q (b1, b2) 1664 [zR (-100), zR 1, zR 98, zR 137, zI l4, x5, zI l6] [] 137 h := by
  refine s_fgt (fgt_c (fgt_c (fgt_c (fgt_c (fgt_c (fgt_n _ (fgt_c fgt_0))))))) ?_
  refine s_aload_n (x := 137) dL_law_1664 rfl ?_
  refine s_iconst dL_law_1665 ?_
  refine s_lald (c := 137) (i := 0) dL_law_1666 e137 (by decide) (by decide) ?_
  refine s_iload (x := l6) dL_law_1667 rfl ?_
  refine s_i2l dL_law_1669 ?_
  refine s_lcmp dL_law_1670 ?_
  exact s_if_eq (tgt := 1676) dL_law_1671 (by decide) r1 kt kf
theorem bL_law_1674 {L b1 b2 : Nat} {xs : Nat → Int} {Q : RS → Nat → AH → Prop} {h : AH} (hL : L < 4000 := by omega) {x0 x1 x2 x3 x4 x5 x6 : AV}   (hq : Q (.inl (some (zI 0))) 137 h) : Wp mL_law (kL L xs) Q (b1, b2) 1674 [x0, x1, x2, x3, x4, x5, x6] [] 137 h := by
  refine s_fgt (fgt_n _ (fgt_n _ (fgt_n _ (fgt_n _ (fgt_n _ (fgt_n _ (fgt_n _ fgt_0))))))) ?_
  refine s_iconst dL_law_1674 ?_
  exact s_ireturn dL_law_1675 ⟨.boolean, rfl, by decide⟩ hq (fun z => by cases z)
theorem bL_law_1676 {L b1 b2 : Nat} {xs : Nat → Int} {Q : RS → Nat → AH → Prop} {h : AH} (hL : L < 4000 := by omega) {l4 : Int} {x5 x6 : AV}   (kk : Wp mL_law (kL L xs) Q (b1, b2) 1771 [zR (-100), zR 1, zR 98, zR 137, zI l4, none, none] [] 137 h) : Wp mL_law (kL L xs) Q (b1, b2) 1676 [zR (-100), zR 1, zR 98, zR 137, zI l4, x5, x6] [] 137 h := by
  refine s_fgt (fgt_c (fgt_c (fgt_c (fgt_c (fgt_c (fgt_n _ (fgt_n _ fgt_0))))))) ?_
  exact s_goto (tgt := 1771) dL_law_1676 (by decide) kk
theorem bL_law_1679 {L b1 b2 : Nat} {xs : Nat → Int} {Q : RS → Nat → AH → Prop} {h : AH} (hL : L < 4000 := by omega) {l4 : Int} {x5 x6 : AV} {R : Int → AH → Prop}  (r1 : 0 ≤ l4 + 1 ∧ l4 + 1 < (L : Int) := by omega) (r2 : 0 ≤ l4 + 2 ∧ l4 + 2 < (L : Int) := by omega) (hS : Sp mL_code true (1000 - 1) 8 48 [zR 1, zI (xs (l4 + 1).toNat), zI (xs (l4 + 2).toNat), zR 137] 137 h (rI R)) (hf : 1 ≤ 1000 := by omega) (g1 : 8 ≤ b1 := by omega) (g2 : 48 ≤ b2 := by omega) (kk : ∀ (x : Int) (h' : AH), R x h' → Wp mL_law (kL L xs) Q (b1 - 8, b2 - 48) 1696 [zR (-100), zR 1, zR 98, zR 137, zI l4, none, none] [zI x] 137 h') : Wp mL_law (kL L xs) Q (b1, b2) 1679 [zR (-100), zR 1, zR 98, zR 137, zI l4, x5, x6] [] 137 h := by
  refine s_fgt (fgt_c (fgt_c (fgt_c (fgt_c (fgt_c (fgt_n _ (fgt_n _ fgt_0))))))) ?_
  refine s_aload_n (x := 1) dL_law_1679 rfl ?_
  refine s_aload_n (x := (-100)) dL_law_1680 rfl ?_
  refine s_iload (x := l4) dL_law_1681 rfl ?_
  refine s_iconst dL_law_1683 ?_
  refine s_iadd dL_law_1684 ?_
  refine s_sld (i := l4 + 1) rfl dL_law_1685 r1.1 r1.2 hL ?_
  refine s_aload_n (x := (-100)) dL_law_1686 rfl ?_
  refine s_iload (x := l4) dL_law_1687 rfl ?_
  refine s_iconst dL_law_1689 ?_
  refine s_iadd dL_law_1690 ?_
  refine s_sld (i := l4 + 2) rfl dL_law_1691 r2.1 r2.2 hL ?_
  refine s_aload_n (x := 137) dL_law_1692 rfl ?_
  exact s_callS (as := [zR 1, zI (xs (l4 + 1).toNat), zI (xs (l4 + 2).toNat), zR 137]) (st := []) dL_law_1693 kL_173 rfl rfl (Nat.le_of_ble_eq_true rfl) hS (show 1000 - 1 + 1 ≤ 1000 by omega) g1 g2 (fun v n' h' hP _ => by obtain ⟨x, e, rfl, hR⟩ := hP; cases e; exact kk x h' hR) (fun E n' h' _ z => (rI_nt _ _ _ z).elim)
theorem bL_law_1696 {L b1 b2 : Nat} {xs : Nat → Int} {Q : RS → Nat → AH → Prop} {h : AH} (hL : L < 4000 := by omega) {l4 s0 : Int} {x5 x6 : AV} {R : Int → AH → Prop}  (r1 : 0 ≤ l4 + 1 ∧ l4 + 1 < (L : Int) := by omega) (r2 : 0 ≤ l4 + 2 ∧ l4 + 2 < (L : Int) := by omega) (hS : Sp mX12_code true (1000 - 1) 0 0 [zR 98, zI (xs (l4 + 1).toNat), zI (xs (l4 + 2).toNat)] 137 h (rI R)) (hf : 1 ≤ 1000 := by omega) (kk : ∀ (x : Int) (h' : AH), R x h' → Wp mL_law (kL L xs) Q (b1, b2) 1714 [zR (-100), zR 1, zR 98, zR 137, zI l4, zI s0, none] [zI x] 137 h') : Wp mL_law (kL L xs) Q (b1, b2) 1696 [zR (-100), zR 1, zR 98, zR 137, zI l4, x5, x6] [zI s0] 137 h := by
  refine s_fgt (fgt_c (fgt_c (fgt_c (fgt_c (fgt_c (fgt_n _ (fgt_n _ fgt_0))))))) ?_
  refine s_istore dL_law_1696 rfl (by decide) ?_
  refine s_aload_n (x := 98) dL_law_1698 rfl ?_
  refine s_aload_n (x := (-100)) dL_law_1699 rfl ?_
  refine s_iload (x := l4) dL_law_1700 rfl ?_
  refine s_iconst dL_law_1702 ?_
  refine s_iadd dL_law_1703 ?_
  refine s_sld (i := l4 + 1) rfl dL_law_1704 r1.1 r1.2 hL ?_
  refine s_aload_n (x := (-100)) dL_law_1705 rfl ?_
  refine s_iload (x := l4) dL_law_1706 rfl ?_
  refine s_iconst dL_law_1708 ?_
  refine s_iadd dL_law_1709 ?_
  refine s_sld (i := l4 + 2) rfl dL_law_1710 r2.1 r2.2 hL ?_
  exact s_callV (as := [zI (xs (l4 + 1).toNat), zI (xs (l4 + 2).toNat)]) (st := []) (o := 98) dL_law_1711 kL_175 rfl ⟨12, 87, TX12, e98, rfl, by decide⟩ rfl rfl (Nat.le_of_ble_eq_true rfl) hS (show 1000 - 1 + 1 ≤ 1000 by omega) (Nat.zero_le _) (Nat.zero_le _) (fun v n' h' hP _ => by obtain ⟨x, e, rfl, hR⟩ := hP; cases e; exact kk x h' hR) (fun E n' h' _ z => (rI_nt _ _ _ z).elim)
theorem bL_law_1714 {L b1 b2 : Nat} {xs : Nat → Int} {Q : RS → Nat → AH → Prop} {h : AH} (hL : L < 4000 := by omega) {l4 l5 s0 : Int} {x6 : AV} {R : Int → AH → Prop}   (hS : Sp mX12_thrown true (1000 - 1) 0 0 [zR 98] 137 h (rI R)) (hf : 1 ≤ 1000 := by omega) (kk : ∀ (x : Int) (h' : AH), R x h' → Wp mL_law (kL L xs) Q (b1, b2) 1720 [zR (-100), zR 1, zR 98, zR 137, zI l4, zI l5, zI s0] [zI x] 137 h') : Wp mL_law (kL L xs) Q (b1, b2) 1714 [zR (-100), zR 1, zR 98, zR 137, zI l4, zI l5, x6] [zI s0] 137 h := by
  refine s_fgt (fgt_c (fgt_c (fgt_c (fgt_c (fgt_c (fgt_c (fgt_n _ fgt_0))))))) ?_
  refine s_istore dL_law_1714 rfl (by decide) ?_
  refine s_aload_n (x := 98) dL_law_1716 rfl ?_
  exact s_callV (as := []) (st := []) (o := 98) dL_law_1717 kL_96 rfl ⟨12, 87, TX12, e98, rfl, by decide⟩ rfl rfl (Nat.le_of_ble_eq_true rfl) hS (show 1000 - 1 + 1 ≤ 1000 by omega) (Nat.zero_le _) (Nat.zero_le _) (fun v n' h' hP _ => by obtain ⟨x, e, rfl, hR⟩ := hP; cases e; exact kk x h' hR) (fun E n' h' _ z => (rI_nt _ _ _ z).elim)
theorem bL_law_1720 {L b1 b2 : Nat} {xs : Nat → Int} {Q : RS → Nat → AH → Prop} {h : AH} (hL : L < 4000 := by omega) {l4 l5 l6 s0 : Int}  (r1 : -2147483648 ≤ s0 ∧ s0 < 2147483648 := by omega) (r2 : -2147483648 ≤ l5 ∧ l5 < 2147483648 := by omega) (kt : s0 = l5 → Wp mL_law (kL L xs) Q (b1, b2) 1727 [zR (-100), zR 1, zR 98, zR 137, zI l4, zI l5, zI l6] [] 137 h) (kf : ¬ s0 = l5 → Wp mL_law (kL L xs) Q (b1, b2) 1725 [zR (-100), zR 1, zR 98, zR 137, zI l4, zI l5, zI l6] [] 137 h) : Wp mL_law (kL L xs) Q (b1, b2) 1720 [zR (-100), zR 1, zR 98, zR 137, zI l4, zI l5, zI l6] [zI s0] 137 h := by
  refine s_iload (x := l5) dL_law_1720 rfl ?_
  exact s_icmp_eq (tgt := 1727) dL_law_1722 (by decide) r1 r2 kt kf
theorem bL_law_1725 {L b1 b2 : Nat} {xs : Nat → Int} {Q : RS → Nat → AH → Prop} {h : AH} (hL : L < 4000 := by omega) {x0 x1 x2 x3 x4 x5 x6 : AV}   (hq : Q (.inl (some (zI 0))) 137 h) : Wp mL_law (kL L xs) Q (b1, b2) 1725 [x0, x1, x2, x3, x4, x5, x6] [] 137 h := by
  refine s_fgt (fgt_n _ (fgt_n _ (fgt_n _ (fgt_n _ (fgt_n _ (fgt_n _ (fgt_n _ fgt_0))))))) ?_
  refine s_iconst dL_law_1725 ?_
  exact s_ireturn dL_law_1726 ⟨.boolean, rfl, by decide⟩ hq (fun z => by cases z)
theorem bL_law_1727 {L b1 b2 : Nat} {xs : Nat → Int} {Q : RS → Nat → AH → Prop} {h : AH} (hL : L < 4000 := by omega) {l4 l5 l6 : Int}  (r1 : -2147483648 ≤ l5 ∧ l5 < 2147483648 := by omega) (kt : ¬ l5 = 0 → Wp mL_law (kL L xs) Q (b1, b2) 1744 [zR (-100), zR 1, zR 98, zR 137, zI l4, zI l5, zI l6] [] 137 h) (kf : l5 = 0 → Wp mL_law (kL L xs) Q (b1, b2) 1732 [zR (-100), zR 1, zR 98, zR 137, zI l4, zI l5, zI l6] [] 137 h) : Wp mL_law (kL L xs) Q (b1, b2) 1727 [zR (-100), zR 1, zR 98, zR 137, zI l4, zI l5, zI l6] [] 137 h := by
  refine s_iload (x := l5) dL_law_1727 rfl ?_
  exact s_if_ne (tgt := 1744) dL_law_1729 (by decide) r1 kt kf
theorem bL_law_1732 {L b1 b2 : Nat} {xs : Nat → Int} {Q : RS → Nat → AH → Prop} {h : AH} (hL : L < 4000 := by omega) {l4 l6 : Int} {x5 : AV}  (r1 : -2147483648 ≤ (lg_cmp (Int64.ofInt (h 137 0)) (Int64.ofInt (i2l l6))).toInt ∧ (lg_cmp (Int64.ofInt (h 137 0)) (Int64.ofInt (i2l l6))).toInt < 2147483648 := by omega) (kt : (lg_cmp (Int64.ofInt (h 137 0)) (Int64.ofInt (i2l l6))).toInt = 0 → Wp mL_law (kL L xs) Q (b1, b2) 1744 [zR (-100), zR 1, zR 98, zR 137, zI l4, none, zI l6] [] 137 h) (kf : ¬ (lg_cmp (Int64.ofInt (h 137 0)) (Int64.ofInt (i2l l6))).toInt = 0 → Wp mL_law (kL L xs) Q (b1, b2) 1742 [zR (-100), zR 1, zR 98, zR 137, zI l4, none, zI l6] [] 137 h) : Wp mL_law (kL L xs) Q (b1, b2) 1732 [zR (-100), zR 1, zR 98, zR 137, zI l4, x5, zI l6] [] 137 h := by
  refine s_fgt (fgt_c (fgt_c (fgt_c (fgt_c (fgt_c (fgt_n _ (fgt_c fgt_0))))))) ?_
  refine s_aload_n (x := 137) dL_law_1732 rfl ?_
  refine s_iconst dL_law_1733 ?_
  refine s_lald (c := 137) (i := 0) dL_law_1734 e137 (by decide) (by decide) ?_
  refine s_iload (x := l6) dL_law_1735 rfl ?_
  refine s_i2l dL_law_1737 ?_
  refine s_lcmp dL_law_1738 ?_
  exact s_if_eq (tgt := 1744) dL_law_1739 (by decide) r1 kt kf
theorem bL_law_1742 {L b1 b2 : Nat} {xs : Nat → Int} {Q : RS → Nat → AH → Prop} {h : AH} (hL : L < 4000 := by omega) {x0 x1 x2 x3 x4 x5 x6 : AV}   (hq : Q (.inl (some (zI 0))) 137 h) : Wp mL_law (kL L xs) Q (b1, b2) 1742 [x0, x1, x2, x3, x4, x5, x6] [] 137 h := by
  refine s_fgt (fgt_n _ (fgt_n _ (fgt_n _ (fgt_n _ (fgt_n _ (fgt_n _ (fgt_n _ fgt_0))))))) ?_
  refine s_iconst dL_law_1742 ?_
  exact s_ireturn dL_law_1743 ⟨.boolean, rfl, by decide⟩ hq (fun z => by cases z)
theorem bL_law_1744 {L b1 b2 : Nat} {xs : Nat → Int} {Q : RS → Nat → AH → Prop} {h : AH} (hL : L < 4000 := by omega) {l4 : Int} {x5 x6 : AV}   (kk : Wp mL_law (kL L xs) Q (b1, b2) 1771 [zR (-100), zR 1, zR 98, zR 137, zI l4, none, none] [] 137 h) : Wp mL_law (kL L xs) Q (b1, b2) 1744 [zR (-100), zR 1, zR 98, zR 137, zI l4, x5, x6] [] 137 h := by
  refine s_fgt (fgt_c (fgt_c (fgt_c (fgt_c (fgt_c (fgt_n _ (fgt_n _ fgt_0))))))) ?_
  exact s_goto (tgt := 1771) dL_law_1744 (by decide) kk
theorem bL_law_1747 {L b1 b2 : Nat} {xs : Nat → Int} {Q : RS → Nat → AH → Prop} {h : AH} (hL : L < 4000 := by omega) {l4 : Int} {x5 x6 : AV} {R : AH → Prop}   (hS : Sp mX11_image true (1000 - 1) 0 0 [zR 1] 137 h (rV R)) (hf : 1 ≤ 1000 := by omega) (kk : ∀ h' : AH, R h' → Wp mL_law (kL L xs) Q (b1, b2) 1751 [zR (-100), zR 1, zR 98, zR 137, zI l4, none, none] [] 137 h') : Wp mL_law (kL L xs) Q (b1, b2) 1747 [zR (-100), zR 1, zR 98, zR 137, zI l4, x5, x6] [] 137 h := by
  refine s_fgt (fgt_c (fgt_c (fgt_c (fgt_c (fgt_c (fgt_n _ (fgt_n _ fgt_0))))))) ?_
  refine s_aload_n (x := 1) dL_law_1747 rfl ?_
  exact s_callV (as := []) (st := []) (o := 1) dL_law_1748 kL_176 rfl ⟨11, 18, TX11, e1, rfl, by decide⟩ rfl rfl (Nat.le_of_ble_eq_true rfl) hS (show 1000 - 1 + 1 ≤ 1000 by omega) (Nat.zero_le _) (Nat.zero_le _) (fun v n' h' hP _ => by obtain ⟨e, rfl, hR⟩ := hP; cases e; exact kk h' hR) (fun E n' h' _ z => (rV_nt _ _ _ z).elim)
theorem bL_law_1751 {L b1 b2 : Nat} {xs : Nat → Int} {Q : RS → Nat → AH → Prop} {h : AH} (hL : L < 4000 := by omega) {l4 : Int} {x5 x6 : AV} {R : AH → Prop}   (hS : Sp mX12_image true (1000 - 1) 0 0 [zR 98] 137 h (rV R)) (hf : 1 ≤ 1000 := by omega) (kk : ∀ h' : AH, R h' → Wp mL_law (kL L xs) Q (b1, b2) 1755 [zR (-100), zR 1, zR 98, zR 137, zI l4, none, none] [] 137 h') : Wp mL_law (kL L xs) Q (b1, b2) 1751 [zR (-100), zR 1, zR 98, zR 137, zI l4, x5, x6] [] 137 h := by
  refine s_fgt (fgt_c (fgt_c (fgt_c (fgt_c (fgt_c (fgt_n _ (fgt_n _ fgt_0))))))) ?_
  refine s_aload_n (x := 98) dL_law_1751 rfl ?_
  exact s_callV (as := []) (st := []) (o := 98) dL_law_1752 kL_179 rfl ⟨12, 87, TX12, e98, rfl, by decide⟩ rfl rfl (Nat.le_of_ble_eq_true rfl) hS (show 1000 - 1 + 1 ≤ 1000 by omega) (Nat.zero_le _) (Nat.zero_le _) (fun v n' h' hP _ => by obtain ⟨e, rfl, hR⟩ := hP; cases e; exact kk h' hR) (fun E n' h' _ z => (rV_nt _ _ _ z).elim)
theorem bL_law_1755 {L b1 b2 : Nat} {xs : Nat → Int} {Q : RS → Nat → AH → Prop} {h : AH} (hL : L < 4000 := by omega) {l4 : Int} {x5 x6 : AV}   (kk : Wp mL_law (kL L xs) Q (b1, b2) 1771 [zR (-100), zR 1, zR 98, zR 137, zI l4, none, none] [] 137 h) : Wp mL_law (kL L xs) Q (b1, b2) 1755 [zR (-100), zR 1, zR 98, zR 137, zI l4, x5, x6] [] 137 h := by
  refine s_fgt (fgt_c (fgt_c (fgt_c (fgt_c (fgt_c (fgt_n _ (fgt_n _ fgt_0))))))) ?_
  exact s_goto (tgt := 1771) dL_law_1755 (by decide) kk
theorem bL_law_1758 {L b1 b2 : Nat} {xs : Nat → Int} {Q : RS → Nat → AH → Prop} {h : AH} (hL : L < 4000 := by omega) {l4 : Int} {x5 x6 : AV} {R : Int → AH → Prop}   (hS : Sp mX11_restore true (1000 - 1) 0 0 [zR 1] 137 h (rI R)) (hf : 1 ≤ 1000 := by omega) (kk : ∀ (x : Int) (h' : AH), R x h' → Wp mL_law (kL L xs) Q (b1, b2) 1762 [zR (-100), zR 1, zR 98, zR 137, zI l4, none, none] [zI x] 137 h') : Wp mL_law (kL L xs) Q (b1, b2) 1758 [zR (-100), zR 1, zR 98, zR 137, zI l4, x5, x6] [] 137 h := by
  refine s_fgt (fgt_c (fgt_c (fgt_c (fgt_c (fgt_c (fgt_n _ (fgt_n _ fgt_0))))))) ?_
  refine s_aload_n (x := 1) dL_law_1758 rfl ?_
  exact s_callV (as := []) (st := []) (o := 1) dL_law_1759 kL_180 rfl ⟨11, 18, TX11, e1, rfl, by decide⟩ rfl rfl (Nat.le_of_ble_eq_true rfl) hS (show 1000 - 1 + 1 ≤ 1000 by omega) (Nat.zero_le _) (Nat.zero_le _) (fun v n' h' hP _ => by obtain ⟨x, e, rfl, hR⟩ := hP; cases e; exact kk x h' hR) (fun E n' h' _ z => (rI_nt _ _ _ z).elim)
theorem bL_law_1762 {L b1 b2 : Nat} {xs : Nat → Int} {Q : RS → Nat → AH → Prop} {h : AH} (hL : L < 4000 := by omega) {l4 s0 : Int} {x5 x6 : AV} {R : Int → AH → Prop}   (hS : Sp mX12_restore true (1000 - 1) 0 0 [zR 98] 137 h (rI R)) (hf : 1 ≤ 1000 := by omega) (kk : ∀ (x : Int) (h' : AH), R x h' → Wp mL_law (kL L xs) Q (b1, b2) 1766 [zR (-100), zR 1, zR 98, zR 137, zI l4, none, none] [zI x, zI s0] 137 h') : Wp mL_law (kL L xs) Q (b1, b2) 1762 [zR (-100), zR 1, zR 98, zR 137, zI l4, x5, x6] [zI s0] 137 h := by
  refine s_fgt (fgt_c (fgt_c (fgt_c (fgt_c (fgt_c (fgt_n _ (fgt_n _ fgt_0))))))) ?_
  refine s_aload_n (x := 98) dL_law_1762 rfl ?_
  exact s_callV (as := []) (st := [zI s0]) (o := 98) dL_law_1763 kL_184 rfl ⟨12, 87, TX12, e98, rfl, by decide⟩ rfl rfl (Nat.le_of_ble_eq_true rfl) hS (show 1000 - 1 + 1 ≤ 1000 by omega) (Nat.zero_le _) (Nat.zero_le _) (fun v n' h' hP _ => by obtain ⟨x, e, rfl, hR⟩ := hP; cases e; exact kk x h' hR) (fun E n' h' _ z => (rI_nt _ _ _ z).elim)
theorem bL_law_1766 {L b1 b2 : Nat} {xs : Nat → Int} {Q : RS → Nat → AH → Prop} {h : AH} (hL : L < 4000 := by omega) {l4 s1 s0 : Int} {x5 x6 : AV}  (r1 : -2147483648 ≤ s1 ∧ s1 < 2147483648 := by omega) (r2 : -2147483648 ≤ s0 ∧ s0 < 2147483648 := by omega) (kt : s1 = s0 → Wp mL_law (kL L xs) Q (b1, b2) 1771 [zR (-100), zR 1, zR 98, zR 137, zI l4, none, none] [] 137 h) (kf : ¬ s1 = s0 → Wp mL_law (kL L xs) Q (b1, b2) 1769 [zR (-100), zR 1, zR 98, zR 137, zI l4, none, none] [] 137 h) : Wp mL_law (kL L xs) Q (b1, b2) 1766 [zR (-100), zR 1, zR 98, zR 137, zI l4, x5, x6] [zI s0, zI s1] 137 h := by
  refine s_fgt (fgt_c (fgt_c (fgt_c (fgt_c (fgt_c (fgt_n _ (fgt_n _ fgt_0))))))) ?_
  exact s_icmp_eq (tgt := 1771) dL_law_1766 (by decide) r1 r2 kt kf
theorem bL_law_1769 {L b1 b2 : Nat} {xs : Nat → Int} {Q : RS → Nat → AH → Prop} {h : AH} (hL : L < 4000 := by omega) {x0 x1 x2 x3 x4 x5 x6 : AV}   (hq : Q (.inl (some (zI 0))) 137 h) : Wp mL_law (kL L xs) Q (b1, b2) 1769 [x0, x1, x2, x3, x4, x5, x6] [] 137 h := by
  refine s_fgt (fgt_n _ (fgt_n _ (fgt_n _ (fgt_n _ (fgt_n _ (fgt_n _ (fgt_n _ fgt_0))))))) ?_
  refine s_iconst dL_law_1769 ?_
  exact s_ireturn dL_law_1770 ⟨.boolean, rfl, by decide⟩ hq (fun z => by cases z)
theorem bL_law_1771 {L b1 b2 : Nat} {xs : Nat → Int} {Q : RS → Nat → AH → Prop} {h : AH} (hL : L < 4000 := by omega) {l4 : Int} {x5 x6 : AV}   (kk : Wp mL_law (kL L xs) Q (b1, b2) 23 [zR (-100), zR 1, zR 98, zR 137, zI (l4 + 6), none, none] [] 137 h) : Wp mL_law (kL L xs) Q (b1, b2) 1771 [zR (-100), zR 1, zR 98, zR 137, zI l4, x5, x6] [] 137 h := by
  refine s_fgt (fgt_c (fgt_c (fgt_c (fgt_c (fgt_c (fgt_n _ (fgt_n _ fgt_0))))))) ?_
  refine s_iinc (x := l4) dL_law_1771 rfl rfl (by decide) ?_
  exact s_goto (tgt := 23) dL_law_1774 (by decide) kk
theorem bL_law_1777 {L b1 b2 : Nat} {xs : Nat → Int} {Q : RS → Nat → AH → Prop} {h : AH} (hL : L < 4000 := by omega) {x0 x1 x2 x3 x4 x5 x6 : AV}   (hq : Q (.inl (some (zI 1))) 137 h) : Wp mL_law (kL L xs) Q (b1, b2) 1777 [x0, x1, x2, x3, x4, x5, x6] [] 137 h := by
  refine s_fgt (fgt_n _ (fgt_n _ (fgt_n _ (fgt_n _ (fgt_n _ (fgt_n _ (fgt_n _ fgt_0))))))) ?_
  refine s_iconst dL_law_1777 ?_
  exact s_ireturn dL_law_1778 ⟨.boolean, rfl, by decide⟩ hq (fun z => by cases z)
