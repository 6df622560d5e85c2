theorem bL_law_23 {L b1 b2 : Nat} {xs : Nat → Int} {Q : RS → Nat → AH → Prop} {h : AH} (hL : L < 4000 := by omega) {l4 : Int} {x5 x6 : AV}  (r1 : -2147483648 ≤ l4 ∧ l4 < 2147483648 := by omega) (r2 : (-2147483648 : Int) ≤ (L : Int) - 6 ∧ (L : Int) - 6 < (2147483648 : Int) := by omega) (kt : (L : Int) - 6 < l4 → Wp mL_law (kL L xs) Q (b1, b2) 1777 [zR (-100), zR 1, zR 98, zR 137, zI l4, none, none] [] 137 h) (kf : l4 ≤ (L : Int) - 6 → Wp mL_law (kL L xs) Q (b1, b2) 33 [zR (-100), zR 1, zR 98, zR 137, zI l4, none, none] [] 137 h) : Wp mL_law (kL L xs) Q (b1, b2) 23 [zR (-100), zR 1, zR 98, zR 137, zI l4, x5, x6] [] 137 h := by
  refine s_fgt (fgt_c (fgt_c (fgt_c (fgt_c (fgt_c (fgt_n _ (fgt_n _ fgt_0))))))) ?_
  refine s_iload (x := l4) dL_law_23 rfl ?_
  refine s_aload_n (x := (-100)) dL_law_25 rfl ?_
  refine s_slen rfl dL_law_26 ?_
  refine s_bipush dL_law_27 (by decide) ?_
  refine s_isub dL_law_29 ?_
  exact s_icmp_gt (tgt := 1777) dL_law_30 (by decide) r1 r2 kt kf
theorem bL_law_33 {L b1 b2 : Nat} {xs : Nat → Int} {Q : RS → Nat → AH → Prop} {h : AH} (hL : L < 4000 := by omega) {l4 : Int} {x5 x6 : AV}  (r1 : 0 ≤ l4 ∧ l4 < (L : Int) := by omega) (r2 : (-2147483648 : Int) ≤ bAnd (xs l4.toNat) 31 ∧ bAnd (xs l4.toNat) 31 < (2147483648 : Int) := by omega) (k0 : bAnd (xs l4.toNat) 31 = 0 → Wp mL_law (kL L xs) Q (b1, b2) 164 [zR (-100), zR 1, zR 98, zR 137, zI l4, none, none] [] 137 h) (k1 : bAnd (xs l4.toNat) 31 = 1 → Wp mL_law (kL L xs) Q (b1, b2) 237 [zR (-100), zR 1, zR 98, zR 137, zI l4, none, none] [] 137 h) (k2 : bAnd (xs l4.toNat) 31 = 2 → Wp mL_law (kL L xs) Q (b1, b2) 293 [zR (-100), zR 1, zR 98, zR 137, zI l4, none, none] [] 137 h) (k3 : bAnd (xs l4.toNat) 31 = 3 → Wp mL_law (kL L xs) Q (b1, b2) 306 [zR (-100), zR 1, zR 98, zR 137, zI l4, none, none] [] 137 h) (k4 : bAnd (xs l4.toNat) 31 = 4 → Wp mL_law (kL L xs) Q (b1, b2) 362 [zR (-100), zR 1, zR 98, zR 137, zI l4, none, none] [] 137 h) (k5 : bAnd (xs l4.toNat) 31 = 5 → Wp mL_law (kL L xs) Q (b1, b2) 430 [zR (-100), zR 1, zR 98, zR 137, zI l4, none, none] [] 137 h) (k6 : bAnd (xs l4.toNat) 31 = 6 → Wp mL_law (kL L xs) Q (b1, b2) 498 [zR (-100), zR 1, zR 98, zR 137, zI l4, none, none] [] 137 h) (k7 : bAnd (xs l4.toNat) 31 = 7 → Wp mL_law (kL L xs) Q (b1, b2) 566 [zR (-100), zR 1, zR 98, zR 137, zI l4, none, none] [] 137 h) (k8 : bAnd (xs l4.toNat) 31 = 8 → Wp mL_law (kL L xs) Q (b1, b2) 579 [zR (-100), zR 1, zR 98, zR 137, zI l4, none, none] [] 137 h) (k9 : bAnd (xs l4.toNat) 31 = 9 → Wp mL_law (kL L xs) Q (b1, b2) 659 [zR (-100), zR 1, zR 98, zR 137, zI l4, none, none] [] 137 h) (k10 : bAnd (xs l4.toNat) 31 = 10 → Wp mL_law (kL L xs) Q (b1, b2) 751 [zR (-100), zR 1, zR 98, zR 137, zI l4, none, none] [] 137 h) (k11 : bAnd (xs l4.toNat) 31 = 11 → Wp mL_law (kL L xs) Q (b1, b2) 819 [zR (-100), zR 1, zR 98, zR 137, zI l4, none, none] [] 137 h) (k12 : bAnd (xs l4.toNat) 31 = 12 → Wp mL_law (kL L xs) Q (b1, b2) 899 [zR (-100), zR 1, zR 98, zR 137, zI l4, none, none] [] 137 h) (k13 : bAnd (xs l4.toNat) 31 = 13 → Wp mL_law (kL L xs) Q (b1, b2) 967 [zR (-100), zR 1, zR 98, zR 137, zI l4, none, none] [] 137 h) (k14 : bAnd (xs l4.toNat) 31 = 14 → Wp mL_law (kL L xs) Q (b1, b2) 1035 [zR (-100), zR 1, zR 98, zR 137, zI l4, none, none] [] 137 h) (k15 : bAnd (xs l4.toNat) 31 = 15 → Wp mL_law (kL L xs) Q (b1, b2) 1091 [zR (-100), zR 1, zR 98, zR 137, zI l4, none, none] [] 137 h) (k16 : bAnd (xs l4.toNat) 31 = 16 → Wp mL_law (kL L xs) Q (b1, b2) 1159 [zR (-100), zR 1, zR 98, zR 137, zI l4, none, none] [] 137 h) (k17 : bAnd (xs l4.toNat) 31 = 17 → Wp mL_law (kL L xs) Q (b1, b2) 1215 [zR (-100), zR 1, zR 98, zR 137, zI l4, none, none] [] 137 h) (k18 : bAnd (xs l4.toNat) 31 = 18 → Wp mL_law (kL L xs) Q (b1, b2) 1271 [zR (-100), zR 1, zR 98, zR 137, zI l4, none, none] [] 137 h) (k19 : bAnd (xs l4.toNat) 31 = 19 → Wp mL_law (kL L xs) Q (b1, b2) 1284 [zR (-100), zR 1, zR 98, zR 137, zI l4, none, none] [] 137 h) (k20 : bAnd (xs l4.toNat) 31 = 20 → Wp mL_law (kL L xs) Q (b1, b2) 1352 [zR (-100), zR 1, zR 98, zR 137, zI l4, none, none] [] 137 h) (k21 : bAnd (xs l4.toNat) 31 = 21 → Wp mL_law (kL L xs) Q (b1, b2) 1408 [zR (-100), zR 1, zR 98, zR 137, zI l4, none, none] [] 137 h) (k22 : bAnd (xs l4.toNat) 31 = 22 → Wp mL_law (kL L xs) Q (b1, b2) 1495 [zR (-100), zR 1, zR 98, zR 137, zI l4, none, none] [] 137 h) (k23 : bAnd (xs l4.toNat) 31 = 23 → Wp mL_law (kL L xs) Q (b1, b2) 1575 [zR (-100), zR 1, zR 98, zR 137, zI l4, none, none] [] 137 h) (k24 : bAnd (xs l4.toNat) 31 = 24 → Wp mL_law (kL L xs) Q (b1, b2) 1679 [zR (-100), zR 1, zR 98, zR 137, zI l4, none, none] [] 137 h) (k25 : bAnd (xs l4.toNat) 31 = 25 → Wp mL_law (kL L xs) Q (b1, b2) 1747 [zR (-100), zR 1, zR 98, zR 137, zI l4, none, none] [] 137 h) (k26 : bAnd (xs l4.toNat) 31 = 26 → Wp mL_law (kL L xs) Q (b1, b2) 1758 [zR (-100), zR 1, zR 98, zR 137, zI l4, none, none] [] 137 h) (kd : bAnd (xs l4.toNat) 31 < 0 ∨ 26 < bAnd (xs l4.toNat) 31 → Wp mL_law (kL L xs) Q (b1, b2) 1771 [zR (-100), zR 1, zR 98, zR 137, zI l4, none, none] [] 137 h) : Wp mL_law (kL L xs) Q (b1, b2) 33 [zR (-100), zR 1, zR 98, zR 137, zI l4, x5, x6] [] 137 h := by
  refine s_fgt (fgt_c (fgt_c (fgt_c (fgt_c (fgt_c (fgt_n _ (fgt_n _ fgt_0))))))) ?_
  refine s_aload_n (x := (-100)) dL_law_33 rfl ?_
  refine s_iload (x := l4) dL_law_34 rfl ?_
  refine s_sld (i := l4) rfl dL_law_36 r1.1 r1.2 hL ?_
  refine s_bipush dL_law_37 (by decide) ?_
  refine s_iand dL_law_39 ?_
  rcases (show (bAnd (xs l4.toNat) 31 < 0 ∨ 26 < bAnd (xs l4.toNat) 31) ∨ bAnd (xs l4.toNat) 31 = 0 ∨ bAnd (xs l4.toNat) 31 = 1 ∨ bAnd (xs l4.toNat) 31 = 2 ∨ bAnd (xs l4.toNat) 31 = 3 ∨ bAnd (xs l4.toNat) 31 = 4 ∨ bAnd (xs l4.toNat) 31 = 5 ∨ bAnd (xs l4.toNat) 31 = 6 ∨ bAnd (xs l4.toNat) 31 = 7 ∨ bAnd (xs l4.toNat) 31 = 8 ∨ bAnd (xs l4.toNat) 31 = 9 ∨ bAnd (xs l4.toNat) 31 = 10 ∨ bAnd (xs l4.toNat) 31 = 11 ∨ bAnd (xs l4.toNat) 31 = 12 ∨ bAnd (xs l4.toNat) 31 = 13 ∨ bAnd (xs l4.toNat) 31 = 14 ∨ bAnd (xs l4.toNat) 31 = 15 ∨ bAnd (xs l4.toNat) 31 = 16 ∨ bAnd (xs l4.toNat) 31 = 17 ∨ bAnd (xs l4.toNat) 31 = 18 ∨ bAnd (xs l4.toNat) 31 = 19 ∨ bAnd (xs l4.toNat) 31 = 20 ∨ bAnd (xs l4.toNat) 31 = 21 ∨ bAnd (xs l4.toNat) 31 = 22 ∨ bAnd (xs l4.toNat) 31 = 23 ∨ bAnd (xs l4.toNat) 31 = 24 ∨ bAnd (xs l4.toNat) 31 = 25 ∨ bAnd (xs l4.toNat) 31 = 26 by omega) with z | z | z | z | z | z | z | z | z | z | z | z | z | z | z | z | z | z | z | z | z | z | z | z | z | z | z | z
  · exact s_tableOut (x := bAnd (xs l4.toNat) 31) (tgt := 1771) dL_law_40 r2 z (by decide) (kd z)
  · exact s_tableIn (x := bAnd (xs l4.toNat) 31) (tgt := 164) (off := 124) dL_law_40 r2 (by omega) (by omega) (by rw [z]; rfl) (by decide) (k0 z)
  · exact s_tableIn (x := bAnd (xs l4.toNat) 31) (tgt := 237) (off := 197) dL_law_40 r2 (by omega) (by omega) (by rw [z]; rfl) (by decide) (k1 z)
  · exact s_tableIn (x := bAnd (xs l4.toNat) 31) (tgt := 293) (off := 253) dL_law_40 r2 (by omega) (by omega) (by rw [z]; rfl) (by decide) (k2 z)
  · exact s_tableIn (x := bAnd (xs l4.toNat) 31) (tgt := 306) (off := 266) dL_law_40 r2 (by omega) (by omega) (by rw [z]; rfl) (by decide) (k3 z)
  · exact s_tableIn (x := bAnd (xs l4.toNat) 31) (tgt := 362) (off := 322) dL_law_40 r2 (by omega) (by omega) (by rw [z]; rfl) (by decide) (k4 z)
  · exact s_tableIn (x := bAnd (xs l4.toNat) 31) (tgt := 430) (off := 390) dL_law_40 r2 (by omega) (by omega) (by rw [z]; rfl) (by decide) (k5 z)
  · exact s_tableIn (x := bAnd (xs l4.toNat) 31) (tgt := 498) (off := 458) dL_law_40 r2 (by omega) (by omega) (by rw [z]; rfl) (by decide) (k6 z)
  · exact s_tableIn (x := bAnd (xs l4.toNat) 31) (tgt := 566) (off := 526) dL_law_40 r2 (by omega) (by omega) (by rw [z]; rfl) (by decide) (k7 z)
  · exact s_tableIn (x := bAnd (xs l4.toNat) 31) (tgt := 579) (off := 539) dL_law_40 r2 (by omega) (by omega) (by rw [z]; rfl) (by decide) (k8 z)
  · exact s_tableIn (x := bAnd (xs l4.toNat) 31) (tgt := 659) (off := 619) dL_law_40 r2 (by omega) (by omega) (by rw [z]; rfl) (by decide) (k9 z)
  · exact s_tableIn (x := bAnd (xs l4.toNat) 31) (tgt := 751) (off := 711) dL_law_40 r2 (by omega) (by omega) (by rw [z]; rfl) (by decide) (k10 z)
  · exact s_tableIn (x := bAnd (xs l4.toNat) 31) (tgt := 819) (off := 779) dL_law_40 r2 (by omega) (by omega) (by rw [z]; rfl) (by decide) (k11 z)
  · exact s_tableIn (x := bAnd (xs l4.toNat) 31) (tgt := 899) (off := 859) dL_law_40 r2 (by omega) (by omega) (by rw [z]; rfl) (by decide) (k12 z)
  · exact s_tableIn (x := bAnd (xs l4.toNat) 31) (tgt := 967) (off := 927) dL_law_40 r2 (by omega) (by omega) (by rw [z]; rfl) (by decide) (k13 z)
  · exact s_tableIn (x := bAnd (xs l4.toNat) 31) (tgt := 1035) (off := 995) dL_law_40 r2 (by omega) (by omega) (by rw [z]; rfl) (by decide) (k14 z)
  · exact s_tableIn (x := bAnd (xs l4.toNat) 31) (tgt := 1091) (off := 1051) dL_law_40 r2 (by omega) (by omega) (by rw [z]; rfl) (by decide) (k15 z)
  · exact s_tableIn (x := bAnd (xs l4.toNat) 31) (tgt := 1159) (off := 1119) dL_law_40 r2 (by omega) (by omega) (by rw [z]; rfl) (by decide) (k16 z)
  · exact s_tableIn (x := bAnd (xs l4.toNat) 31) (tgt := 1215) (off := 1175) dL_law_40 r2 (by omega) (by omega) (by rw [z]; rfl) (by decide) (k17 z)
  · exact s_tableIn (x := bAnd (xs l4.toNat) 31) (tgt := 1271) (off := 1231) dL_law_40 r2 (by omega) (by omega) (by rw [z]; rfl) (by decide) (k18 z)
  · exact s_tableIn (x := bAnd (xs l4.toNat) 31) (tgt := 1284) (off := 1244) dL_law_40 r2 (by omega) (by omega) (by rw [z]; rfl) (by decide) (k19 z)
  · exact s_tableIn (x := bAnd (xs l4.toNat) 31) (tgt := 1352) (off := 1312) dL_law_40 r2 (by omega) (by omega) (by rw [z]; rfl) (by decide) (k20 z)
  · exact s_tableIn (x := bAnd (xs l4.toNat) 31) (tgt := 1408) (off := 1368) dL_law_40 r2 (by omega) (by omega) (by rw [z]; rfl) (by decide) (k21 z)
  · exact s_tableIn (x := bAnd (xs l4.toNat) 31) (tgt := 1495) (off := 1455) dL_law_40 r2 (by omega) (by omega) (by rw [z]; rfl) (by decide) (k22 z)
  · exact s_tableIn (x := bAnd (xs l4.toNat) 31) (tgt := 1575) (off := 1535) dL_law_40 r2 (by omega) (by omega) (by rw [z]; rfl) (by decide) (k23 z)
  · exact s_tableIn (x := bAnd (xs l4.toNat) 31) (tgt := 1679) (off := 1639) dL_law_40 r2 (by omega) (by omega) (by rw [z]; rfl) (by decide) (k24 z)
  · exact s_tableIn (x := bAnd (xs l4.toNat) 31) (tgt := 1747) (off := 1707) dL_law_40 r2 (by omega) (by omega) (by rw [z]; rfl) (by decide) (k25 z)
  · exact s_tableIn (x := bAnd (xs l4.toNat) 31) (tgt := 1758) (off := 1718) dL_law_40 r2 (by omega) (by omega) (by rw [z]; rfl) (by decide) (k26 z)
theorem bL_law_164 {L b1 b2 : Nat} {xs : Nat → Int} {Q : RS → Nat → AH → Prop} {h : AH} (hL : L < 4000 := by omega) {l4 : Int} {x5 x6 : AV} {R : Int → AH → Prop}  (r1 : 0 ≤ l4 + 1 ∧ l4 + 1 < (L : Int) := by omega) (r2 : 0 ≤ l4 + 2 ∧ l4 + 2 < (L : Int) := by omega) (r3 : 0 ≤ l4 + 3 ∧ l4 + 3 < (L : Int) := by omega) (r4 : 0 ≤ l4 + 4 ∧ l4 + 4 < (L : Int) := by omega) (r5 : 0 ≤ l4 + 5 ∧ l4 + 5 < (L : Int) := by omega) (hS : Sp mX11_feed true (1000 - 1) 0 0 [zR 1, zI (xs (l4 + 1).toNat), zI (xs (l4 + 2).toNat), zI (xs (l4 + 3).toNat), zI (xs (l4 + 4).toNat), zI (xs (l4 + 5).toNat)] 137 h (rI R)) (hf : 1 ≤ 1000 := by omega) (kk : ∀ (x : Int) (h' : AH), R x h' → Wp mL_law (kL L xs) Q (b1, b2) 198 [zR (-100), zR 1, zR 98, zR 137, zI l4, none, none] [zI x] 137 h') : Wp mL_law (kL L xs) Q (b1, b2) 164 [zR (-100), zR 1, zR 98, zR 137, zI l4, x5, x6] [] 137 h := by
  refine s_fgt (fgt_c (fgt_c (fgt_c (fgt_c (fgt_c (fgt_n _ (fgt_n _ fgt_0))))))) ?_
  refine s_aload_n (x := 1) dL_law_164 rfl ?_
  refine s_aload_n (x := (-100)) dL_law_165 rfl ?_
  refine s_iload (x := l4) dL_law_166 rfl ?_
  refine s_iconst dL_law_168 ?_
  refine s_iadd dL_law_169 ?_
  refine s_sld (i := l4 + 1) rfl dL_law_170 r1.1 r1.2 hL ?_
  refine s_aload_n (x := (-100)) dL_law_171 rfl ?_
  refine s_iload (x := l4) dL_law_172 rfl ?_
  refine s_iconst dL_law_174 ?_
  refine s_iadd dL_law_175 ?_
  refine s_sld (i := l4 + 2) rfl dL_law_176 r2.1 r2.2 hL ?_
  refine s_aload_n (x := (-100)) dL_law_177 rfl ?_
  refine s_iload (x := l4) dL_law_178 rfl ?_
  refine s_iconst dL_law_180 ?_
  refine s_iadd dL_law_181 ?_
  refine s_sld (i := l4 + 3) rfl dL_law_182 r3.1 r3.2 hL ?_
  refine s_aload_n (x := (-100)) dL_law_183 rfl ?_
  refine s_iload (x := l4) dL_law_184 rfl ?_
  refine s_iconst dL_law_186 ?_
  refine s_iadd dL_law_187 ?_
  refine s_sld (i := l4 + 4) rfl dL_law_188 r4.1 r4.2 hL ?_
  refine s_aload_n (x := (-100)) dL_law_189 rfl ?_
  refine s_iload (x := l4) dL_law_190 rfl ?_
  refine s_iconst dL_law_192 ?_
  refine s_iadd dL_law_193 ?_
  refine s_sld (i := l4 + 5) rfl dL_law_194 r5.1 r5.2 hL ?_
  exact s_callV (as := [zI (xs (l4 + 1).toNat), zI (xs (l4 + 2).toNat), zI (xs (l4 + 3).toNat), zI (xs (l4 + 4).toNat), zI (xs (l4 + 5).toNat)]) (st := []) (o := 1) dL_law_195 kL_86 rfl ⟨11, 18, TX11, e1, rfl, by decide⟩ rfl rfl (Nat.le_of_ble_eq_true rfl) hS (show 1000 - 1 + 1 ≤ 1000 by omega) (Nat.zero_le _) (Nat.zero_le _) (fun v n' h' hP _ => by obtain ⟨x, e, rfl, hR⟩ := hP; cases e; exact kk x h' hR) (fun E n' h' _ z => (rI_nt _ _ _ z).elim)
theorem bL_law_198 {L b1 b2 : Nat} {xs : Nat → Int} {Q : RS → Nat → AH → Prop} {h : AH} (hL : L < 4000 := by omega) {l4 s0 : Int} {x5 x6 : AV} {R : Int → AH → Prop}  (r1 : 0 ≤ l4 + 1 ∧ l4 + 1 < (L : Int) := by omega) (r2 : 0 ≤ l4 + 2 ∧ l4 + 2 < (L : Int) := by omega) (r3 : 0 ≤ l4 + 3 ∧ l4 + 3 < (L : Int) := by omega) (r4 : 0 ≤ l4 + 4 ∧ l4 + 4 < (L : Int) := by omega) (r5 : 0 ≤ l4 + 5 ∧ l4 + 5 < (L : Int) := by omega) (hS : Sp mX12_feed true (1000 - 1) 0 0 [zR 98, zI (xs (l4 + 1).toNat), zI (xs (l4 + 2).toNat), zI (xs (l4 + 3).toNat), zI (xs (l4 + 4).toNat), zI (xs (l4 + 5).toNat)] 137 h (rI R)) (hf : 1 ≤ 1000 := by omega) (kk : ∀ (x : Int) (h' : AH), R x h' → Wp mL_law (kL L xs) Q (b1, b2) 232 [zR (-100), zR 1, zR 98, zR 137, zI l4, none, none] [zI x, zI s0] 137 h') : Wp mL_law (kL L xs) Q (b1, b2) 198 [zR (-100), zR 1, zR 98, zR 137, zI l4, x5, x6] [zI s0] 137 h := by
  refine s_fgt (fgt_c (fgt_c (fgt_c (fgt_c (fgt_c (fgt_n _ (fgt_n _ fgt_0))))))) ?_
  refine s_aload_n (x := 98) dL_law_198 rfl ?_
  refine s_aload_n (x := (-100)) dL_law_199 rfl ?_
  refine s_iload (x := l4) dL_law_200 rfl ?_
  refine s_iconst dL_law_202 ?_
  refine s_iadd dL_law_203 ?_
  refine s_sld (i := l4 + 1) rfl dL_law_204 r1.1 r1.2 hL ?_
  refine s_aload_n (x := (-100)) dL_law_205 rfl ?_
  refine s_iload (x := l4) dL_law_206 rfl ?_
  refine s_iconst dL_law_208 ?_
  refine s_iadd dL_law_209 ?_
  refine s_sld (i := l4 + 2) rfl dL_law_210 r2.1 r2.2 hL ?_
  refine s_aload_n (x := (-100)) dL_law_211 rfl ?_
  refine s_iload (x := l4) dL_law_212 rfl ?_
  refine s_iconst dL_law_214 ?_
  refine s_iadd dL_law_215 ?_
  refine s_sld (i := l4 + 3) rfl dL_law_216 r3.1 r3.2 hL ?_
  refine s_aload_n (x := (-100)) dL_law_217 rfl ?_
  refine s_iload (x := l4) dL_law_218 rfl ?_
  refine s_iconst dL_law_220 ?_
  refine s_iadd dL_law_221 ?_
  refine s_sld (i := l4 + 4) rfl dL_law_222 r4.1 r4.2 hL ?_
  refine s_aload_n (x := (-100)) dL_law_223 rfl ?_
  refine s_iload (x := l4) dL_law_224 rfl ?_
  refine s_iconst dL_law_226 ?_
  refine s_iadd dL_law_227 ?_
  refine s_sld (i := l4 + 5) rfl dL_law_228 r5.1 r5.2 hL ?_
  exact s_callV (as := [zI (xs (l4 + 1).toNat), zI (xs (l4 + 2).toNat), zI (xs (l4 + 3).toNat), zI (xs (l4 + 4).toNat), zI (xs (l4 + 5).toNat)]) (st := [zI s0]) (o := 98) dL_law_229 kL_89 rfl ⟨12, 87, TX12, e98, rfl, by decide⟩ rfl rfl (Nat.le_of_ble_eq_true rfl) hS (show 1000 - 1 + 1 ≤ 1000 by omega) (Nat.zero_le _) (Nat.zero_le _) (fun v n' h' hP _ => by obtain ⟨x, e, rfl, hR⟩ := hP; cases e; exact kk x h' hR) (fun E n' h' _ z => (rI_nt _ _ _ z).elim)
theorem bL_law_232 {L b1 b2 : Nat} {xs : Nat → Int} {Q : RS → Nat → AH → Prop} {h : AH} (hL : L < 4000 := by omega) {l4 s1 s0 : Int} {x5 x6 : AV}  (r1 : -2147483648 ≤ s1 ∧ s1 < 2147483648 := by omega) (r2 : -2147483648 ≤ s0 ∧ s0 < 2147483648 := by omega) (kt : s1 = s0 → Wp mL_law (kL L xs) Q (b1, b2) 1771 [zR (-100), zR 1, zR 98, zR 137, zI l4, none, none] [] 137 h) (kf : ¬ s1 = s0 → Wp mL_law (kL L xs) Q (b1, b2) 235 [zR (-100), zR 1, zR 98, zR 137, zI l4, none, none] [] 137 h) : Wp mL_law (kL L xs) Q (b1, b2) 232 [zR (-100), zR 1, zR 98, zR 137, zI l4, x5, x6] [zI s0, zI s1] 137 h := by
  refine s_fgt (fgt_c (fgt_c (fgt_c (fgt_c (fgt_c (fgt_n _ (fgt_n _ fgt_0))))))) ?_
  exact s_icmp_eq (tgt := 1771) dL_law_232 (by decide) r1 r2 kt kf
theorem bL_law_235 {L b1 b2 : Nat} {xs : Nat → Int} {Q : RS → Nat → AH → Prop} {h : AH} (hL : L < 4000 := by omega) {x0 x1 x2 x3 x4 x5 x6 : AV}   (hq : Q (.inl (some (zI 0))) 137 h) : Wp mL_law (kL L xs) Q (b1, b2) 235 [x0, x1, x2, x3, x4, x5, x6] [] 137 h := by
  refine s_fgt (fgt_n _ (fgt_n _ (fgt_n _ (fgt_n _ (fgt_n _ (fgt_n _ (fgt_n _ fgt_0))))))) ?_
  refine s_iconst dL_law_235 ?_
  exact s_ireturn dL_law_236 ⟨.boolean, rfl, by decide⟩ hq (fun z => by cases z)
theorem bL_law_237 {L b1 b2 : Nat} {xs : Nat → Int} {Q : RS → Nat → AH → Prop} {h : AH} (hL : L < 4000 := by omega) {l4 : Int} {x5 x6 : AV} {R : Int → AH → Prop}  (r1 : 0 ≤ l4 + 1 ∧ l4 + 1 < (L : Int) := by omega) (hS : Sp mL_gorge true (1000 - 1) 8 48 [zR 1, zI (xs (l4 + 1).toNat), zR 137] 137 h (rI R)) (hf : 1 ≤ 1000 := by omega) (g1 : 8 ≤ b1 := by omega) (g2 : 48 ≤ b2 := by omega) (kk : ∀ (x : Int) (h' : AH), R x h' → Wp mL_law (kL L xs) Q (b1 - 8, b2 - 48) 248 [zR (-100), zR 1, zR 98, zR 137, zI l4, none, none] [zI x] 137 h') : Wp mL_law (kL L xs) Q (b1, b2) 237 [zR (-100), zR 1, zR 98, zR 137, zI l4, x5, x6] [] 137 h := by
  refine s_fgt (fgt_c (fgt_c (fgt_c (fgt_c (fgt_c (fgt_n _ (fgt_n _ fgt_0))))))) ?_
  refine s_aload_n (x := 1) dL_law_237 rfl ?_
  refine s_aload_n (x := (-100)) dL_law_238 rfl ?_
  refine s_iload (x := l4) dL_law_239 rfl ?_
  refine s_iconst dL_law_241 ?_
  refine s_iadd dL_law_242 ?_
  refine s_sld (i := l4 + 1) rfl dL_law_243 r1.1 r1.2 hL ?_
  refine s_aload_n (x := 137) dL_law_244 rfl ?_
  exact s_callS (as := [zR 1, zI (xs (l4 + 1).toNat), zR 137]) (st := []) dL_law_245 kL_90 rfl rfl (Nat.le_of_ble_eq_true rfl) hS (show 1000 - 1 + 1 ≤ 1000 by omega) g1 g2 (fun v n' h' hP _ => by obtain ⟨x, e, rfl, hR⟩ := hP; cases e; exact kk x h' hR) (fun E n' h' _ z => (rI_nt _ _ _ z).elim)
theorem bL_law_248 {L b1 b2 : Nat} {xs : Nat → Int} {Q : RS → Nat → AH → Prop} {h : AH} (hL : L < 4000 := by omega) {l4 s0 : Int} {x5 x6 : AV} {R : Int → AH → Prop}  (r1 : 0 ≤ l4 + 1 ∧ l4 + 1 < (L : Int) := by omega) (hS : Sp mX12_gorge true (1000 - 1) 0 0 [zR 98, zI (xs (l4 + 1).toNat)] 137 h (rI R)) (hf : 1 ≤ 1000 := by omega) (kk : ∀ (x : Int) (h' : AH), R x h' → Wp mL_law (kL L xs) Q (b1, b2) 260 [zR (-100), zR 1, zR 98, zR 137, zI l4, zI s0, none] [zI x] 137 h') : Wp mL_law (kL L xs) Q (b1, b2) 248 [zR (-100), zR 1, zR 98, zR 137, zI l4, x5, x6] [zI s0] 137 h := by
  refine s_fgt (fgt_c (fgt_c (fgt_c (fgt_c (fgt_c (fgt_n _ (fgt_n _ fgt_0))))))) ?_
  refine s_istore dL_law_248 rfl (by decide) ?_
  refine s_aload_n (x := 98) dL_law_250 rfl ?_
  refine s_aload_n (x := (-100)) dL_law_251 rfl ?_
  refine s_iload (x := l4) dL_law_252 rfl ?_
  refine s_iconst dL_law_254 ?_
  refine s_iadd dL_law_255 ?_
  refine s_sld (i := l4 + 1) rfl dL_law_256 r1.1 r1.2 hL ?_
  exact s_callV (as := [zI (xs (l4 + 1).toNat)]) (st := []) (o := 98) dL_law_257 kL_95 rfl ⟨12, 87, TX12, e98, rfl, by decide⟩ rfl rfl (Nat.le_of_ble_eq_true rfl) hS (show 1000 - 1 + 1 ≤ 1000 by omega) (Nat.zero_le _) (Nat.zero_le _) (fun v n' h' hP _ => by obtain ⟨x, e, rfl, hR⟩ := hP; cases e; exact kk x h' hR) (fun E n' h' _ z => (rI_nt _ _ _ z).elim)
theorem bL_law_260 {L b1 b2 : Nat} {xs : Nat → Int} {Q : RS → Nat → AH → Prop} {h : AH} (hL : L < 4000 := by omega) {l4 l5 s0 : Int} {x6 : AV} {R : Int → AH → Prop}   (hS : Sp mX12_thrown true (1000 - 1) 0 0 [zR 98] 137 h (rI R)) (hf : 1 ≤ 1000 := by omega) (kk : ∀ (x : Int) (h' : AH), R x h' → Wp mL_law (kL L xs) Q (b1, b2) 266 [zR (-100), zR 1, zR 98, zR 137, zI l4, zI l5, zI s0] [zI x] 137 h') : Wp mL_law (kL L xs) Q (b1, b2) 260 [zR (-100), zR 1, zR 98, zR 137, zI l4, zI l5, x6] [zI s0] 137 h := by
  refine s_fgt (fgt_c (fgt_c (fgt_c (fgt_c (fgt_c (fgt_c (fgt_n _ fgt_0))))))) ?_
  refine s_istore dL_law_260 rfl (by decide) ?_
  refine s_aload_n (x := 98) dL_law_262 rfl ?_
  exact s_callV (as := []) (st := []) (o := 98) dL_law_263 kL_96 rfl ⟨12, 87, TX12, e98, rfl, by decide⟩ rfl rfl (Nat.le_of_ble_eq_true rfl) hS (show 1000 - 1 + 1 ≤ 1000 by omega) (Nat.zero_le _) (Nat.zero_le _) (fun v n' h' hP _ => by obtain ⟨x, e, rfl, hR⟩ := hP; cases e; exact kk x h' hR) (fun E n' h' _ z => (rI_nt _ _ _ z).elim)
theorem bL_law_266 {L b1 b2 : Nat} {xs : Nat → Int} {Q : RS → Nat → AH → Prop} {h : AH} (hL : L < 4000 := by omega) {l4 l5 l6 s0 : Int}  (r1 : -2147483648 ≤ s0 ∧ s0 < 2147483648 := by omega) (r2 : -2147483648 ≤ l5 ∧ l5 < 2147483648 := by omega) (kt : s0 = l5 → Wp mL_law (kL L xs) Q (b1, b2) 273 [zR (-100), zR 1, zR 98, zR 137, zI l4, zI l5, zI l6] [] 137 h) (kf : ¬ s0 = l5 → Wp mL_law (kL L xs) Q (b1, b2) 271 [zR (-100), zR 1, zR 98, zR 137, zI l4, zI l5, zI l6] [] 137 h) : Wp mL_law (kL L xs) Q (b1, b2) 266 [zR (-100), zR 1, zR 98, zR 137, zI l4, zI l5, zI l6] [zI s0] 137 h := by
  refine s_iload (x := l5) dL_law_266 rfl ?_
  exact s_icmp_eq (tgt := 273) dL_law_268 (by decide) r1 r2 kt kf
theorem bL_law_271 {L b1 b2 : Nat} {xs : Nat → Int} {Q : RS → Nat → AH → Prop} {h : AH} (hL : L < 4000 := by omega) {x0 x1 x2 x3 x4 x5 x6 : AV}   (hq : Q (.inl (some (zI 0))) 137 h) : Wp mL_law (kL L xs) Q (b1, b2) 271 [x0, x1, x2, x3, x4, x5, x6] [] 137 h := by
  refine s_fgt (fgt_n _ (fgt_n _ (fgt_n _ (fgt_n _ (fgt_n _ (fgt_n _ (fgt_n _ fgt_0))))))) ?_
  refine s_iconst dL_law_271 ?_
  exact s_ireturn dL_law_272 ⟨.boolean, rfl, by decide⟩ hq (fun z => by cases z)
theorem bL_law_273 {L b1 b2 : Nat} {xs : Nat → Int} {Q : RS → Nat → AH → Prop} {h : AH} (hL : L < 4000 := by omega) {l4 l5 l6 : Int}  (r1 : -2147483648 ≤ l5 ∧ l5 < 2147483648 := by omega) (kt : ¬ l5 = 0 → Wp mL_law (kL L xs) Q (b1, b2) 290 [zR (-100), zR 1, zR 98, zR 137, zI l4, zI l5, zI l6] [] 137 h) (kf : l5 = 0 → Wp mL_law (kL L xs) Q (b1, b2) 278 [zR (-100), zR 1, zR 98, zR 137, zI l4, zI l5, zI l6] [] 137 h) : Wp mL_law (kL L xs) Q (b1, b2) 273 [zR (-100), zR 1, zR 98, zR 137, zI l4, zI l5, zI l6] [] 137 h := by
  refine s_iload (x := l5) dL_law_273 rfl ?_
  exact s_if_ne (tgt := 290) dL_law_275 (by decide) r1 kt kf
theorem bL_law_278 {L b1 b2 : Nat} {xs : Nat → Int} {Q : RS → Nat → AH → Prop} {h : AH} (hL : L < 4000 := by omega) {l4 l6 : Int} {x5 : AV}  (r1 : -2147483648 ≤ (lg_cmp (Int64.ofInt (h 137 0)) (Int64.ofInt (i2l l6))).toInt ∧ (lg_cmp (Int64.ofInt (h 137 0)) (Int64.ofInt (i2l l6))).toInt < 2147483648 := by omega) (kt : (lg_cmp (Int64.ofInt (h 137 0)) (Int64.ofInt (i2l l6))).toInt = 0 → Wp mL_law (kL L xs) Q (b1, b2) 290 [zR (-100), zR 1, zR 98, zR 137, zI l4, none, zI l6] [] 137 h) (kf : ¬ (lg_cmp (Int64.ofInt (h 137 0)) (Int64.ofInt (i2l l6))).toInt = 0 → Wp mL_law (kL L xs) Q (b1, b2) 288 [zR (-100), zR 1, zR 98, zR 137, zI l4, none, zI l6] [] 137 h) : Wp mL_law (kL L xs) Q (b1, b2) 278 [zR (-100), zR 1, zR 98, zR 137, zI l4, x5, zI l6] [] 137 h := by
  refine s_fgt (fgt_c (fgt_c (fgt_c (fgt_c (fgt_c (fgt_n _ (fgt_c fgt_0))))))) ?_
  refine s_aload_n (x := 137) dL_law_278 rfl ?_
  refine s_iconst dL_law_279 ?_
  refine s_lald (c := 137) (i := 0) dL_law_280 e137 (by decide) (by decide) ?_
  refine s_iload (x := l6) dL_law_281 rfl ?_
  refine s_i2l dL_law_283 ?_
  refine s_lcmp dL_law_284 ?_
  exact s_if_eq (tgt := 290) dL_law_285 (by decide) r1 kt kf
theorem bL_law_288 {L b1 b2 : Nat} {xs : Nat → Int} {Q : RS → Nat → AH → Prop} {h : AH} (hL : L < 4000 := by omega) {x0 x1 x2 x3 x4 x5 x6 : AV}   (hq : Q (.inl (some (zI 0))) 137 h) : Wp mL_law (kL L xs) Q (b1, b2) 288 [x0, x1, x2, x3, x4, x5, x6] [] 137 h := by
  refine s_fgt (fgt_n _ (fgt_n _ (fgt_n _ (fgt_n _ (fgt_n _ (fgt_n _ (fgt_n _ fgt_0))))))) ?_
  refine s_iconst dL_law_288 ?_
  exact s_ireturn dL_law_289 ⟨.boolean, rfl, by decide⟩ hq (fun z => by cases z)
theorem bL_law_290 {L b1 b2 : Nat} {xs : Nat → Int} {Q : RS → Nat → AH → Prop} {h : AH} (hL : L < 4000 := by omega) {l4 : Int} {x5 x6 : AV}   (kk : Wp mL_law (kL L xs) Q (b1, b2) 1771 [zR (-100), zR 1, zR 98, zR 137, zI l4, none, none] [] 137 h) : Wp mL_law (kL L xs) Q (b1, b2) 290 [zR (-100), zR 1, zR 98, zR 137, zI l4, x5, x6] [] 137 h := by
  refine s_fgt (fgt_c (fgt_c (fgt_c (fgt_c (fgt_c (fgt_n _ (fgt_n _ fgt_0))))))) ?_
  exact s_goto (tgt := 1771) dL_law_290 (by decide) kk
theorem bL_law_293 {L b1 b2 : Nat} {xs : Nat → Int} {Q : RS → Nat → AH → Prop} {h : AH} (hL : L < 4000 := by omega) {l4 : Int} {x5 x6 : AV} {R : Int → AH → Prop}   (hS : Sp mX11_fault true (1000 - 1) 0 0 [zR 1] 137 h (rI R)) (hf : 1 ≤ 1000 := by omega) (kk : ∀ (x : Int) (h' : AH), R x h' → Wp mL_law (kL L xs) Q (b1, b2) 297 [zR (-100), zR 1, zR 98, zR 137, zI l4, none, none] [zI x] 137 h') : Wp mL_law (kL L xs) Q (b1, b2) 293 [zR (-100), zR 1, zR 98, zR 137, zI l4, x5, x6] [] 137 h := by
  refine s_fgt (fgt_c (fgt_c (fgt_c (fgt_c (fgt_c (fgt_n _ (fgt_n _ fgt_0))))))) ?_
  refine s_aload_n (x := 1) dL_law_293 rfl ?_
  exact s_callV (as := []) (st := []) (o := 1) dL_law_294 kL_100 rfl ⟨11, 18, TX11, e1, rfl, by decide⟩ rfl rfl (Nat.le_of_ble_eq_true rfl) hS (show 1000 - 1 + 1 ≤ 1000 by omega) (Nat.zero_le _) (Nat.zero_le _) (fun v n' h' hP _ => by obtain ⟨x, e, rfl, hR⟩ := hP; cases e; exact kk x h' hR) (fun E n' h' _ z => (rI_nt _ _ _ z).elim)
theorem bL_law_297 {L b1 b2 : Nat} {xs : Nat → Int} {Q : RS → Nat → AH → Prop} {h : AH} (hL : L < 4000 := by omega) {l4 s0 : Int} {x5 x6 : AV} {R : Int → AH → Prop}   (hS : Sp mX12_fault true (1000 - 1) 0 0 [zR 98] 137 h (rI R)) (hf : 1 ≤ 1000 := by omega) (kk : ∀ (x : Int) (h' : AH), R x h' → Wp mL_law (kL L xs) Q (b1, b2) 301 [zR (-100), zR 1, zR 98, zR 137, zI l4, none, none] [zI x, zI s0] 137 h') : Wp mL_law (kL L xs) Q (b1, b2) 297 [zR (-100), zR 1, zR 98, zR 137, zI l4, x5, x6] [zI s0] 137 h := by
  refine s_fgt (fgt_c (fgt_c (fgt_c (fgt_c (fgt_c (fgt_n _ (fgt_n _ fgt_0))))))) ?_
  refine s_aload_n (x := 98) dL_law_297 rfl ?_
  exact s_callV (as := []) (st := [zI s0]) (o := 98) dL_law_298 kL_103 rfl ⟨12, 87, TX12, e98, rfl, by decide⟩ rfl rfl (Nat.le_of_ble_eq_true rfl) hS (show 1000 - 1 + 1 ≤ 1000 by omega) (Nat.zero_le _) (Nat.zero_le _) (fun v n' h' hP _ => by obtain ⟨x, e, rfl, hR⟩ := hP; cases e; exact kk x h' hR) (fun E n' h' _ z => (rI_nt _ _ _ z).elim)
theorem bL_law_301 {L b1 b2 : Nat} {xs : Nat → Int} {Q : RS → Nat → AH → Prop} {h : AH} (hL : L < 4000 := by omega) {l4 s1 s0 : Int} {x5 x6 : AV}  (r1 : -2147483648 ≤ s1 ∧ s1 < 2147483648 := by omega) (r2 : -2147483648 ≤ s0 ∧ s0 < 2147483648 := by omega) (kt : s1 = s0 → Wp mL_law (kL L xs) Q (b1, b2) 1771 [zR (-100), zR 1, zR 98, zR 137, zI l4, none, none] [] 137 h) (kf : ¬ s1 = s0 → Wp mL_law (kL L xs) Q (b1, b2) 304 [zR (-100), zR 1, zR 98, zR 137, zI l4, none, none] [] 137 h) : Wp mL_law (kL L xs) Q (b1, b2) 301 [zR (-100), zR 1, zR 98, zR 137, zI l4, x5, x6] [zI s0, zI s1] 137 h := by
  refine s_fgt (fgt_c (fgt_c (fgt_c (fgt_c (fgt_c (fgt_n _ (fgt_n _ fgt_0))))))) ?_
  exact s_icmp_eq (tgt := 1771) dL_law_301 (by decide) r1 r2 kt kf
theorem bL_law_304 {L b1 b2 : Nat} {xs : Nat → Int} {Q : RS → Nat → AH → Prop} {h : AH} (hL : L < 4000 := by omega) {x0 x1 x2 x3 x4 x5 x6 : AV}   (hq : Q (.inl (some (zI 0))) 137 h) : Wp mL_law (kL L xs) Q (b1, b2) 304 [x0, x1, x2, x3, x4, x5, x6] [] 137 h := by
  refine s_fgt (fgt_n _ (fgt_n _ (fgt_n _ (fgt_n _ (fgt_n _ (fgt_n _ (fgt_n _ fgt_0))))))) ?_
  refine s_iconst dL_law_304 ?_
  exact s_ireturn dL_law_305 ⟨.boolean, rfl, by decide⟩ hq (fun z => by cases z)
theorem bL_law_306 {L b1 b2 : Nat} {xs : Nat → Int} {Q : RS → Nat → AH → Prop} {h : AH} (hL : L < 4000 := by omega) {l4 : Int} {x5 x6 : AV} {R : Int → AH → Prop}  (r1 : 0 ≤ l4 + 1 ∧ l4 + 1 < (L : Int) := by omega) (hS : Sp mL_count true (1000 - 1) 8 48 [zR 1, zI (xs (l4 + 1).toNat), zR 137] 137 h (rI R)) (hf : 1 ≤ 1000 := by omega) (g1 : 8 ≤ b1 := by omega) (g2 : 48 ≤ b2 := by omega) (kk : ∀ (x : Int) (h' : AH), R x h' → Wp mL_law (kL L xs) Q (b1 - 8, b2 - 48) 317 [zR (-100), zR 1, zR 98, zR 137, zI l4, none, none] [zI x] 137 h') : Wp mL_law (kL L xs) Q (b1, b2) 306 [zR (-100), zR 1, zR 98, zR 137, zI l4, x5, x6] [] 137 h := by
  refine s_fgt (fgt_c (fgt_c (fgt_c (fgt_c (fgt_c (fgt_n _ (fgt_n _ fgt_0))))))) ?_
  refine s_aload_n (x := 1) dL_law_306 rfl ?_
  refine s_aload_n (x := (-100)) dL_law_307 rfl ?_
  refine s_iload (x := l4) dL_law_308 rfl ?_
  refine s_iconst dL_law_310 ?_
  refine s_iadd dL_law_311 ?_
  refine s_sld (i := l4 + 1) rfl dL_law_312 r1.1 r1.2 hL ?_
  refine s_aload_n (x := 137) dL_law_313 rfl ?_
  exact s_callS (as := [zR 1, zI (xs (l4 + 1).toNat), zR 137]) (st := []) dL_law_314 kL_104 rfl rfl (Nat.le_of_ble_eq_true rfl) hS (show 1000 - 1 + 1 ≤ 1000 by omega) g1 g2 (fun v n' h' hP _ => by obtain ⟨x, e, rfl, hR⟩ := hP; cases e; exact kk x h' hR) (fun E n' h' _ z => (rI_nt _ _ _ z).elim)
theorem bL_law_317 {L b1 b2 : Nat} {xs : Nat → Int} {Q : RS → Nat → AH → Prop} {h : AH} (hL : L < 4000 := by omega) {l4 s0 : Int} {x5 x6 : AV} {R : Int → AH → Prop}  (r1 : 0 ≤ l4 + 1 ∧ l4 + 1 < (L : Int) := by omega) (hS : Sp mX12_count true (1000 - 1) 0 0 [zR 98, zI (xs (l4 + 1).toNat)] 137 h (rI R)) (hf : 1 ≤ 1000 := by omega) (kk : ∀ (x : Int) (h' : AH), R x h' → Wp mL_law (kL L xs) Q (b1, b2) 329 [zR (-100), zR 1, zR 98, zR 137, zI l4, zI s0, none] [zI x] 137 h') : Wp mL_law (kL L xs) Q (b1, b2) 317 [zR (-100), zR 1, zR 98, zR 137, zI l4, x5, x6] [zI s0] 137 h := by
  refine s_fgt (fgt_c (fgt_c (fgt_c (fgt_c (fgt_c (fgt_n _ (fgt_n _ fgt_0))))))) ?_
  refine s_istore dL_law_317 rfl (by decide) ?_
  refine s_aload_n (x := 98) dL_law_319 rfl ?_
  refine s_aload_n (x := (-100)) dL_law_320 rfl ?_
  refine s_iload (x := l4) dL_law_321 rfl ?_
  refine s_iconst dL_law_323 ?_
  refine s_iadd dL_law_324 ?_
  refine s_sld (i := l4 + 1) rfl dL_law_325 r1.1 r1.2 hL ?_
  exact s_callV (as := [zI (xs (l4 + 1).toNat)]) (st := []) (o := 98) dL_law_326 kL_106 rfl ⟨12, 87, TX12, e98, rfl, by decide⟩ rfl rfl (Nat.le_of_ble_eq_true rfl) hS (show 1000 - 1 + 1 ≤ 1000 by omega) (Nat.zero_le _) (Nat.zero_le _) (fun v n' h' hP _ => by obtain ⟨x, e, rfl, hR⟩ := hP; cases e; exact kk x h' hR) (fun E n' h' _ z => (rI_nt _ _ _ z).elim)
theorem bL_law_329 {L b1 b2 : Nat} {xs : Nat → Int} {Q : RS → Nat → AH → Prop} {h : AH} (hL : L < 4000 := by omega) {l4 l5 s0 : Int} {x6 : AV} {R : Int → AH → Prop}   (hS : Sp mX12_thrown true (1000 - 1) 0 0 [zR 98] 137 h (rI R)) (hf : 1 ≤ 1000 := by omega) (kk : ∀ (x : Int) (h' : AH), R x h' → Wp mL_law (kL L xs) Q (b1, b2) 335 [zR (-100), zR 1, zR 98, zR 137, zI l4, zI l5, zI s0] [zI x] 137 h') : Wp mL_law (kL L xs) Q (b1, b2) 329 [zR (-100), zR 1, zR 98, zR 137, zI l4, zI l5, x6] [zI s0] 137 h := by
  refine s_fgt (fgt_c (fgt_c (fgt_c (fgt_c (fgt_c (fgt_c (fgt_n _ fgt_0))))))) ?_
  refine s_istore dL_law_329 rfl (by decide) ?_
  refine s_aload_n (x := 98) dL_law_331 rfl ?_
  exact s_callV (as := []) (st := []) (o := 98) dL_law_332 kL_96 rfl ⟨12, 87, TX12, e98, rfl, by decide⟩ rfl rfl (Nat.le_of_ble_eq_true rfl) hS (show 1000 - 1 + 1 ≤ 1000 by omega) (Nat.zero_le _) (Nat.zero_le _) (fun v n' h' hP _ => by obtain ⟨x, e, rfl, hR⟩ := hP; cases e; exact kk x h' hR) (fun E n' h' _ z => (rI_nt _ _ _ z).elim)
theorem bL_law_335 {L b1 b2 : Nat} {xs : Nat → Int} {Q : RS → Nat → AH → Prop} {h : AH} (hL : L < 4000 := by omega) {l4 l5 l6 s0 : Int}  (r1 : -2147483648 ≤ s0 ∧ s0 < 2147483648 := by omega) (r2 : -2147483648 ≤ l5 ∧ l5 < 2147483648 := by omega) (kt : s0 = l5 → Wp mL_law (kL L xs) Q (b1, b2) 342 [zR (-100), zR 1, zR 98, zR 137, zI l4, zI l5, zI l6] [] 137 h) (kf : ¬ s0 = l5 → Wp mL_law (kL L xs) Q (b1, b2) 340 [zR (-100), zR 1, zR 98, zR 137, zI l4, zI l5, zI l6] [] 137 h) : Wp mL_law (kL L xs) Q (b1, b2) 335 [zR (-100), zR 1, zR 98, zR 137, zI l4, zI l5, zI l6] [zI s0] 137 h := by
  refine s_iload (x := l5) dL_law_335 rfl ?_
  exact s_icmp_eq (tgt := 342) dL_law_337 (by decide) r1 r2 kt kf
theorem bL_law_340 {L b1 b2 : Nat} {xs : Nat → Int} {Q : RS → Nat → AH → Prop} {h : AH} (hL : L < 4000 := by omega) {x0 x1 x2 x3 x4 x5 x6 : AV}   (hq : Q (.inl (some (zI 0))) 137 h) : Wp mL_law (kL L xs) Q (b1, b2) 340 [x0, x1, x2, x3, x4, x5, x6] [] 137 h := by
  refine s_fgt (fgt_n _ (fgt_n _ (fgt_n _ (fgt_n _ (fgt_n _ (fgt_n _ (fgt_n _ fgt_0))))))) ?_
  refine s_iconst dL_law_340 ?_
  exact s_ireturn dL_law_341 ⟨.boolean, rfl, by decide⟩ hq (fun z => by cases z)
theorem bL_law_342 {L b1 b2 : Nat} {xs : Nat → Int} {Q : RS → Nat → AH → Prop} {h : AH} (hL : L < 4000 := by omega) {l4 l5 l6 : Int}  (r1 : -2147483648 ≤ l5 ∧ l5 < 2147483648 := by omega) (kt : ¬ l5 = 0 → Wp mL_law (kL L xs) Q (b1, b2) 359 [zR (-100), zR 1, zR 98, zR 137, zI l4, zI l5, zI l6] [] 137 h) (kf : l5 = 0 → Wp mL_law (kL L xs) Q (b1, b2) 347 [zR (-100), zR 1, zR 98, zR 137, zI l4, zI l5, zI l6] [] 137 h) : Wp mL_law (kL L xs) Q (b1, b2) 342 [zR (-100), zR 1, zR 98, zR 137, zI l4, zI l5, zI l6] [] 137 h := by
  refine s_iload (x := l5) dL_law_342 rfl ?_
  exact s_if_ne (tgt := 359) dL_law_344 (by decide) r1 kt kf
theorem bL_law_347 {L b1 b2 : Nat} {xs : Nat → Int} {Q : RS → Nat → AH → Prop} {h : AH} (hL : L < 4000 := by omega) {l4 l6 : Int} {x5 : AV}  (r1 : -2147483648 ≤ (lg_cmp (Int64.ofInt (h 137 0)) (Int64.ofInt (i2l l6))).toInt ∧ (lg_cmp (Int64.ofInt (h 137 0)) (Int64.ofInt (i2l l6))).toInt < 2147483648 := by omega) (kt : (lg_cmp (Int64.ofInt (h 137 0)) (Int64.ofInt (i2l l6))).toInt = 0 → Wp mL_law (kL L xs) Q (b1, b2) 359 [zR (-100), zR 1, zR 98, zR 137, zI l4, none, zI l6] [] 137 h) (kf : ¬ (lg_cmp (Int64.ofInt (h 137 0)) (Int64.ofInt (i2l l6))).toInt = 0 → Wp mL_law (kL L xs) Q (b1, b2) 357 [zR (-100), zR 1, zR 98, zR 137, zI l4, none, zI l6] [] 137 h) : Wp mL_law (kL L xs) Q (b1, b2) 347 [zR (-100), zR 1, zR 98, zR 137, zI l4, x5, zI l6] [] 137 h := by
  refine s_fgt (fgt_c (fgt_c (fgt_c (fgt_c (fgt_c (fgt_n _ (fgt_c fgt_0))))))) ?_
  refine s_aload_n (x := 137) dL_law_347 rfl ?_
  refine s_iconst dL_law_348 ?_
  refine s_lald (c := 137) (i := 0) dL_law_349 e137 (by decide) (by decide) ?_
  refine s_iload (x := l6) dL_law_350 rfl ?_
  refine s_i2l dL_law_352 ?_
  refine s_lcmp dL_law_353 ?_
  exact s_if_eq (tgt := 359) dL_law_354 (by decide) r1 kt kf
theorem bL_law_357 {L b1 b2 : Nat} {xs : Nat → Int} {Q : RS → Nat → AH → Prop} {h : AH} (hL : L < 4000 := by omega) {x0 x1 x2 x3 x4 x5 x6 : AV}   (hq : Q (.inl (some (zI 0))) 137 h) : Wp mL_law (kL L xs) Q (b1, b2) 357 [x0, x1, x2, x3, x4, x5, x6] [] 137 h := by
  refine s_fgt (fgt_n _ (fgt_n _ (fgt_n _ (fgt_n _ (fgt_n _ (fgt_n _ (fgt_n _ fgt_0))))))) ?_
  refine s_iconst dL_law_357 ?_
  exact s_ireturn dL_law_358 ⟨.boolean, rfl, by decide⟩ hq (fun z => by cases z)
theorem bL_law_359 {L b1 b2 : Nat} {xs : Nat → Int} {Q : RS → Nat → AH → Prop} {h : AH} (hL : L < 4000 := by omega) {l4 : Int} {x5 x6 : AV}   (kk : Wp mL_law (kL L xs) Q (b1, b2) 1771 [zR (-100), zR 1, zR 98, zR 137, zI l4, none, none] [] 137 h) : Wp mL_law (kL L xs) Q (b1, b2) 359 [zR (-100), zR 1, zR 98, zR 137, zI l4, x5, x6] [] 137 h := by
  refine s_fgt (fgt_c (fgt_c (fgt_c (fgt_c (fgt_c (fgt_n _ (fgt_n _ fgt_0))))))) ?_
  exact s_goto (tgt := 1771) dL_law_359 (by decide) kk
theorem bL_law_362 {L b1 b2 : Nat} {xs : Nat → Int} {Q : RS → Nat → AH → Prop} {h : AH} (hL : L < 4000 := by omega) {l4 : Int} {x5 x6 : AV} {R : Int → AH → Prop}  (r1 : 0 ≤ l4 + 1 ∧ l4 + 1 < (L : Int) := by omega) (r2 : 0 ≤ l4 + 2 ∧ l4 + 2 < (L : Int) := by omega) (hS : Sp mL_wall true (1000 - 1) 8 48 [zR 1, zI (xs (l4 + 1).toNat), zI (xs (l4 + 2).toNat), zR 137] 137 h (rI R)) (hf : 1 ≤ 1000 := by omega) (g1 : 8 ≤ b1 := by omega) (g2 : 48 ≤ b2 := by omega) (kk : ∀ (x : Int) (h' : AH), R x h' → Wp mL_law (kL L xs) Q (b1 - 8, b2 - 48) 379 [zR (-100), zR 1, zR 98, zR 137, zI l4, none, none] [zI x] 137 h') : Wp mL_law (kL L xs) Q (b1, b2) 362 [zR (-100), zR 1, zR 98, zR 137, zI l4, x5, x6] [] 137 h := by
  refine s_fgt (fgt_c (fgt_c (fgt_c (fgt_c (fgt_c (fgt_n _ (fgt_n _ fgt_0))))))) ?_
  refine s_aload_n (x := 1) dL_law_362 rfl ?_
  refine s_aload_n (x := (-100)) dL_law_363 rfl ?_
  refine s_iload (x := l4) dL_law_364 rfl ?_
  refine s_iconst dL_law_366 ?_
  refine s_iadd dL_law_367 ?_
  refine s_sld (i := l4 + 1) rfl dL_law_368 r1.1 r1.2 hL ?_
  refine s_aload_n (x := (-100)) dL_law_369 rfl ?_
  refine s_iload (x := l4) dL_law_370 rfl ?_
  refine s_iconst dL_law_372 ?_
  refine s_iadd dL_law_373 ?_
  refine s_sld (i := l4 + 2) rfl dL_law_374 r2.1 r2.2 hL ?_
  refine s_aload_n (x := 137) dL_law_375 rfl ?_
  exact s_callS (as := [zR 1, zI (xs (l4 + 1).toNat), zI (xs (l4 + 2).toNat), zR 137]) (st := []) dL_law_376 kL_107 rfl rfl (Nat.le_of_ble_eq_true rfl) hS (show 1000 - 1 + 1 ≤ 1000 by omega) g1 g2 (fun v n' h' hP _ => by obtain ⟨x, e, rfl, hR⟩ := hP; cases e; exact kk x h' hR) (fun E n' h' _ z => (rI_nt _ _ _ z).elim)
theorem bL_law_379 {L b1 b2 : Nat} {xs : Nat → Int} {Q : RS → Nat → AH → Prop} {h : AH} (hL : L < 4000 := by omega) {l4 s0 : Int} {x5 x6 : AV} {R : Int → AH → Prop}  (r1 : 0 ≤ l4 + 1 ∧ l4 + 1 < (L : Int) := by omega) (r2 : 0 ≤ l4 + 2 ∧ l4 + 2 < (L : Int) := by omega) (hS : Sp mX12_wall true (1000 - 1) 0 0 [zR 98, zI (xs (l4 + 1).toNat), zI (xs (l4 + 2).toNat)] 137 h (rI R)) (hf : 1 ≤ 1000 := by omega) (kk : ∀ (x : Int) (h' : AH), R x h' → Wp mL_law (kL L xs) Q (b1, b2) 397 [zR (-100), zR 1, zR 98, zR 137, zI l4, zI s0, none] [zI x] 137 h') : Wp mL_law (kL L xs) Q (b1, b2) 379 [zR (-100), zR 1, zR 98, zR 137, zI l4, x5, x6] [zI s0] 137 h := by
  refine s_fgt (fgt_c (fgt_c (fgt_c (fgt_c (fgt_c (fgt_n _ (fgt_n _ fgt_0))))))) ?_
  refine s_istore dL_law_379 rfl (by decide) ?_
  refine s_aload_n (x := 98) dL_law_381 rfl ?_
  refine s_aload_n (x := (-100)) dL_law_382 rfl ?_
  refine s_iload (x := l4) dL_law_383 rfl ?_
  refine s_iconst dL_law_385 ?_
  refine s_iadd dL_law_386 ?_
  refine s_sld (i := l4 + 1) rfl dL_law_387 r1.1 r1.2 hL ?_
  refine s_aload_n (x := (-100)) dL_law_388 rfl ?_
  refine s_iload (x := l4) dL_law_389 rfl ?_
  refine s_iconst dL_law_391 ?_
  refine s_iadd dL_law_392 ?_
  refine s_sld (i := l4 + 2) rfl dL_law_393 r2.1 r2.2 hL ?_
  exact s_callV (as := [zI (xs (l4 + 1).toNat), zI (xs (l4 + 2).toNat)]) (st := []) (o := 98) dL_law_394 kL_110 rfl ⟨12, 87, TX12, e98, rfl, by decide⟩ rfl rfl (Nat.le_of_ble_eq_true rfl) hS (show 1000 - 1 + 1 ≤ 1000 by omega) (Nat.zero_le _) (Nat.zero_le _) (fun v n' h' hP _ => by obtain ⟨x, e, rfl, hR⟩ := hP; cases e; exact kk x h' hR) (fun E n' h' _ z => (rI_nt _ _ _ z).elim)
theorem bL_law_397 {L b1 b2 : Nat} {xs : Nat → Int} {Q : RS → Nat → AH → Prop} {h : AH} (hL : L < 4000 := by omega) {l4 l5 s0 : Int} {x6 : AV} {R : Int → AH → Prop}   (hS : Sp mX12_thrown true (1000 - 1) 0 0 [zR 98] 137 h (rI R)) (hf : 1 ≤ 1000 := by omega) (kk : ∀ (x : Int) (h' : AH), R x h' → Wp mL_law (kL L xs) Q (b1, b2) 403 [zR (-100), zR 1, zR 98, zR 137, zI l4, zI l5, zI s0] [zI x] 137 h') : Wp mL_law (kL L xs) Q (b1, b2) 397 [zR (-100), zR 1, zR 98, zR 137, zI l4, zI l5, x6] [zI s0] 137 h := by
  refine s_fgt (fgt_c (fgt_c (fgt_c (fgt_c (fgt_c (fgt_c (fgt_n _ fgt_0))))))) ?_
  refine s_istore dL_law_397 rfl (by decide) ?_
  refine s_aload_n (x := 98) dL_law_399 rfl ?_
  exact s_callV (as := []) (st := []) (o := 98) dL_law_400 kL_96 rfl ⟨12, 87, TX12, e98, rfl, by decide⟩ rfl rfl (Nat.le_of_ble_eq_true rfl) hS (show 1000 - 1 + 1 ≤ 1000 by omega) (Nat.zero_le _) (Nat.zero_le _) (fun v n' h' hP _ => by obtain ⟨x, e, rfl, hR⟩ := hP; cases e; exact kk x h' hR) (fun E n' h' _ z => (rI_nt _ _ _ z).elim)
theorem bL_law_403 {L b1 b2 : Nat} {xs : Nat → Int} {Q : RS → Nat → AH → Prop} {h : AH} (hL : L < 4000 := by omega) {l4 l5 l6 s0 : Int}  (r1 : -2147483648 ≤ s0 ∧ s0 < 2147483648 := by omega) (r2 : -2147483648 ≤ l5 ∧ l5 < 2147483648 := by omega) (kt : s0 = l5 → Wp mL_law (kL L xs) Q (b1, b2) 410 [zR (-100), zR 1, zR 98, zR 137, zI l4, zI l5, zI l6] [] 137 h) (kf : ¬ s0 = l5 → Wp mL_law (kL L xs) Q (b1, b2) 408 [zR (-100), zR 1, zR 98, zR 137, zI l4, zI l5, zI l6] [] 137 h) : Wp mL_law (kL L xs) Q (b1, b2) 403 [zR (-100), zR 1, zR 98, zR 137, zI l4, zI l5, zI l6] [zI s0] 137 h := by
  refine s_iload (x := l5) dL_law_403 rfl ?_
  exact s_icmp_eq (tgt := 410) dL_law_405 (by decide) r1 r2 kt kf
theorem bL_law_408 {L b1 b2 : Nat} {xs : Nat → Int} {Q : RS → Nat → AH → Prop} {h : AH} (hL : L < 4000 := by omega) {x0 x1 x2 x3 x4 x5 x6 : AV}   (hq : Q (.inl (some (zI 0))) 137 h) : Wp mL_law (kL L xs) Q (b1, b2) 408 [x0, x1, x2, x3, x4, x5, x6] [] 137 h := by
  refine s_fgt (fgt_n _ (fgt_n _ (fgt_n _ (fgt_n _ (fgt_n _ (fgt_n _ (fgt_n _ fgt_0))))))) ?_
  refine s_iconst dL_law_408 ?_
  exact s_ireturn dL_law_409 ⟨.boolean, rfl, by decide⟩ hq (fun z => by cases z)
theorem bL_law_410 {L b1 b2 : Nat} {xs : Nat → Int} {Q : RS → Nat → AH → Prop} {h : AH} (hL : L < 4000 := by omega) {l4 l5 l6 : Int}  (r1 : -2147483648 ≤ l5 ∧ l5 < 2147483648 := by omega) (kt : ¬ l5 = 0 → Wp mL_law (kL L xs) Q (b1, b2) 427 [zR (-100), zR 1, zR 98, zR 137, zI l4, zI l5, zI l6] [] 137 h) (kf : l5 = 0 → Wp mL_law (kL L xs) Q (b1, b2) 415 [zR (-100), zR 1, zR 98, zR 137, zI l4, zI l5, zI l6] [] 137 h) : Wp mL_law (kL L xs) Q (b1, b2) 410 [zR (-100), zR 1, zR 98, zR 137, zI l4, zI l5, zI l6] [] 137 h := by
  refine s_iload (x := l5) dL_law_410 rfl ?_
  exact s_if_ne (tgt := 427) dL_law_412 (by decide) r1 kt kf
theorem bL_law_415 {L b1 b2 : Nat} {xs : Nat → Int} {Q : RS → Nat → AH → Prop} {h : AH} (hL : L < 4000 := by omega) {l4 l6 : Int} {x5 : AV}  (r1 : -2147483648 ≤ (lg_cmp (Int64.ofInt (h 137 0)) (Int64.ofInt (i2l l6))).toInt ∧ (lg_cmp (Int64.ofInt (h 137 0)) (Int64.ofInt (i2l l6))).toInt < 2147483648 := by omega) (kt : (lg_cmp (Int64.ofInt (h 137 0)) (Int64.ofInt (i2l l6))).toInt = 0 → Wp mL_law (kL L xs) Q (b1, b2) 427 [zR (-100), zR 1, zR 98, zR 137, zI l4, none, zI l6] [] 137 h) (kf : ¬ (lg_cmp (Int64.ofInt (h 137 0)) (Int64.ofInt (i2l l6))).toInt = 0 → Wp mL_law (kL L xs) Q (b1, b2) 425 [zR (-100), zR 1, zR 98, zR 137, zI l4, none, zI l6] [] 137 h) : Wp mL_law (kL L xs) Q (b1, b2) 415 [zR (-100), zR 1, zR 98, zR 137, zI l4, x5, zI l6] [] 137 h := by
  refine s_fgt (fgt_c (fgt_c (fgt_c (fgt_c (fgt_c (fgt_n _ (fgt_c fgt_0))))))) ?_
  refine s_aload_n (x := 137) dL_law_415 rfl ?_
  refine s_iconst dL_law_416 ?_
  refine s_lald (c := 137) (i := 0) dL_law_417 e137 (by decide) (by decide) ?_
  refine s_iload (x := l6) dL_law_418 rfl ?_
  refine s_i2l dL_law_420 ?_
  refine s_lcmp dL_law_421 ?_
  exact s_if_eq (tgt := 427) dL_law_422 (by decide) r1 kt kf
theorem bL_law_425 {L b1 b2 : Nat} {xs : Nat → Int} {Q : RS → Nat → AH → Prop} {h : AH} (hL : L < 4000 := by omega) {x0 x1 x2 x3 x4 x5 x6 : AV}   (hq : Q (.inl (some (zI 0))) 137 h) : Wp mL_law (kL L xs) Q (b1, b2) 425 [x0, x1, x2, x3, x4, x5, x6] [] 137 h := by
  refine s_fgt (fgt_n _ (fgt_n _ (fgt_n _ (fgt_n _ (fgt_n _ (fgt_n _ (fgt_n _ fgt_0))))))) ?_
  refine s_iconst dL_law_425 ?_
  exact s_ireturn dL_law_426 ⟨.boolean, rfl, by decide⟩ hq (fun z => by cases z)
theorem bL_law_427 {L b1 b2 : Nat} {xs : Nat → Int} {Q : RS → Nat → AH → Prop} {h : AH} (hL : L < 4000 := by omega) {l4 : Int} {x5 x6 : AV}   (kk : Wp mL_law (kL L xs) Q (b1, b2) 1771 [zR (-100), zR 1, zR 98, zR 137, zI l4, none, none] [] 137 h) : Wp mL_law (kL L xs) Q (b1, b2) 427 [zR (-100), zR 1, zR 98, zR 137, zI l4, x5, x6] [] 137 h := by
  refine s_fgt (fgt_c (fgt_c (fgt_c (fgt_c (fgt_c (fgt_n _ (fgt_n _ fgt_0))))))) ?_
  exact s_goto (tgt := 1771) dL_law_427 (by decide) kk
theorem bL_law_430 {L b1 b2 : Nat} {xs : Nat → Int} {Q : RS → Nat → AH → Prop} {h : AH} (hL : L < 4000 := by omega) {l4 : Int} {x5 x6 : AV} {R : Int → AH → Prop}  (r1 : 0 ≤ l4 + 1 ∧ l4 + 1 < (L : Int) := by omega) (r2 : 0 ≤ l4 + 2 ∧ l4 + 2 < (L : Int) := by omega) (hS : Sp mL_word true (1000 - 1) 8 48 [zR 1, zI (xs (l4 + 1).toNat), zI (xs (l4 + 2).toNat), zR 137] 137 h (rI R)) (hf : 1 ≤ 1000 := by omega) (g1 : 8 ≤ b1 := by omega) (g2 : 48 ≤ b2 := by omega) (kk : ∀ (x : Int) (h' : AH), R x h' → Wp mL_law (kL L xs) Q (b1 - 8, b2 - 48) 447 [zR (-100), zR 1, zR 98, zR 137, zI l4, none, none] [zI x] 137 h') : Wp mL_law (kL L xs) Q (b1, b2) 430 [zR (-100), zR 1, zR 98, zR 137, zI l4, x5, x6] [] 137 h := by
  refine s_fgt (fgt_c (fgt_c (fgt_c (fgt_c (fgt_c (fgt_n _ (fgt_n _ fgt_0))))))) ?_
  refine s_aload_n (x := 1) dL_law_430 rfl ?_
  refine s_aload_n (x := (-100)) dL_law_431 rfl ?_
  refine s_iload (x := l4) dL_law_432 rfl ?_
  refine s_iconst dL_law_434 ?_
  refine s_iadd dL_law_435 ?_
  refine s_sld (i := l4 + 1) rfl dL_law_436 r1.1 r1.2 hL ?_
  refine s_aload_n (x := (-100)) dL_law_437 rfl ?_
  refine s_iload (x := l4) dL_law_438 rfl ?_
  refine s_iconst dL_law_440 ?_
  refine s_iadd dL_law_441 ?_
  refine s_sld (i := l4 + 2) rfl dL_law_442 r2.1 r2.2 hL ?_
  refine s_aload_n (x := 137) dL_law_443 rfl ?_
  exact s_callS (as := [zR 1, zI (xs (l4 + 1).toNat), zI (xs (l4 + 2).toNat), zR 137]) (st := []) dL_law_444 kL_111 rfl rfl (Nat.le_of_ble_eq_true rfl) hS (show 1000 - 1 + 1 ≤ 1000 by omega) g1 g2 (fun v n' h' hP _ => by obtain ⟨x, e, rfl, hR⟩ := hP; cases e; exact kk x h' hR) (fun E n' h' _ z => (rI_nt _ _ _ z).elim)
theorem bL_law_447 {L b1 b2 : Nat} {xs : Nat → Int} {Q : RS → Nat → AH → Prop} {h : AH} (hL : L < 4000 := by omega) {l4 s0 : Int} {x5 x6 : AV} {R : Int → AH → Prop}  (r1 : 0 ≤ l4 + 1 ∧ l4 + 1 < (L : Int) := by omega) (r2 : 0 ≤ l4 + 2 ∧ l4 + 2 < (L : Int) := by omega) (hS : Sp mX12_word true (1000 - 1) 0 0 [zR 98, zI (xs (l4 + 1).toNat), zI (xs (l4 + 2).toNat)] 137 h (rI R)) (hf : 1 ≤ 1000 := by omega) (kk : ∀ (x : Int) (h' : AH), R x h' → Wp mL_law (kL L xs) Q (b1, b2) 465 [zR (-100), zR 1, zR 98, zR 137, zI l4, zI s0, none] [zI x] 137 h') : Wp mL_law (kL L xs) Q (b1, b2) 447 [zR (-100), zR 1, zR 98, zR 137, zI l4, x5, x6] [zI s0] 137 h := by
  refine s_fgt (fgt_c (fgt_c (fgt_c (fgt_c (fgt_c (fgt_n _ (fgt_n _ fgt_0))))))) ?_
  refine s_istore dL_law_447 rfl (by decide) ?_
  refine s_aload_n (x := 98) dL_law_449 rfl ?_
  refine s_aload_n (x := (-100)) dL_law_450 rfl ?_
  refine s_iload (x := l4) dL_law_451 rfl ?_
  refine s_iconst dL_law_453 ?_
  refine s_iadd dL_law_454 ?_
  refine s_sld (i := l4 + 1) rfl dL_law_455 r1.1 r1.2 hL ?_
  refine s_aload_n (x := (-100)) dL_law_456 rfl ?_
  refine s_iload (x := l4) dL_law_457 rfl ?_
  refine s_iconst dL_law_459 ?_
  refine s_iadd dL_law_460 ?_
  refine s_sld (i := l4 + 2) rfl dL_law_461 r2.1 r2.2 hL ?_
  exact s_callV (as := [zI (xs (l4 + 1).toNat), zI (xs (l4 + 2).toNat)]) (st := []) (o := 98) dL_law_462 kL_113 rfl ⟨12, 87, TX12, e98, rfl, by decide⟩ rfl rfl (Nat.le_of_ble_eq_true rfl) hS (show 1000 - 1 + 1 ≤ 1000 by omega) (Nat.zero_le _) (Nat.zero_le _) (fun v n' h' hP _ => by obtain ⟨x, e, rfl, hR⟩ := hP; cases e; exact kk x h' hR) (fun E n' h' _ z => (rI_nt _ _ _ z).elim)
theorem bL_law_465 {L b1 b2 : Nat} {xs : Nat → Int} {Q : RS → Nat → AH → Prop} {h : AH} (hL : L < 4000 := by omega) {l4 l5 s0 : Int} {x6 : AV} {R : Int → AH → Prop}   (hS : Sp mX12_thrown true (1000 - 1) 0 0 [zR 98] 137 h (rI R)) (hf : 1 ≤ 1000 := by omega) (kk : ∀ (x : Int) (h' : AH), R x h' → Wp mL_law (kL L xs) Q (b1, b2) 471 [zR (-100), zR 1, zR 98, zR 137, zI l4, zI l5, zI s0] [zI x] 137 h') : Wp mL_law (kL L xs) Q (b1, b2) 465 [zR (-100), zR 1, zR 98, zR 137, zI l4, zI l5, x6] [zI s0] 137 h := by
  refine s_fgt (fgt_c (fgt_c (fgt_c (fgt_c (fgt_c (fgt_c (fgt_n _ fgt_0))))))) ?_
  refine s_istore dL_law_465 rfl (by decide) ?_
  refine s_aload_n (x := 98) dL_law_467 rfl ?_
  exact s_callV (as := []) (st := []) (o := 98) dL_law_468 kL_96 rfl ⟨12, 87, TX12, e98, rfl, by decide⟩ rfl rfl (Nat.le_of_ble_eq_true rfl) hS (show 1000 - 1 + 1 ≤ 1000 by omega) (Nat.zero_le _) (Nat.zero_le _) (fun v n' h' hP _ => by obtain ⟨x, e, rfl, hR⟩ := hP; cases e; exact kk x h' hR) (fun E n' h' _ z => (rI_nt _ _ _ z).elim)
theorem bL_law_471 {L b1 b2 : Nat} {xs : Nat → Int} {Q : RS → Nat → AH → Prop} {h : AH} (hL : L < 4000 := by omega) {l4 l5 l6 s0 : Int}  (r1 : -2147483648 ≤ s0 ∧ s0 < 2147483648 := by omega) (r2 : -2147483648 ≤ l5 ∧ l5 < 2147483648 := by omega) (kt : s0 = l5 → Wp mL_law (kL L xs) Q (b1, b2) 478 [zR (-100), zR 1, zR 98, zR 137, zI l4, zI l5, zI l6] [] 137 h) (kf : ¬ s0 = l5 → Wp mL_law (kL L xs) Q (b1, b2) 476 [zR (-100), zR 1, zR 98, zR 137, zI l4, zI l5, zI l6] [] 137 h) : Wp mL_law (kL L xs) Q (b1, b2) 471 [zR (-100), zR 1, zR 98, zR 137, zI l4, zI l5, zI l6] [zI s0] 137 h := by
  refine s_iload (x := l5) dL_law_471 rfl ?_
  exact s_icmp_eq (tgt := 478) dL_law_473 (by decide) r1 r2 kt kf
theorem bL_law_476 {L b1 b2 : Nat} {xs : Nat → Int} {Q : RS → Nat → AH → Prop} {h : AH} (hL : L < 4000 := by omega) {x0 x1 x2 x3 x4 x5 x6 : AV}   (hq : Q (.inl (some (zI 0))) 137 h) : Wp mL_law (kL L xs) Q (b1, b2) 476 [x0, x1, x2, x3, x4, x5, x6] [] 137 h := by
  refine s_fgt (fgt_n _ (fgt_n _ (fgt_n _ (fgt_n _ (fgt_n _ (fgt_n _ (fgt_n _ fgt_0))))))) ?_
  refine s_iconst dL_law_476 ?_
  exact s_ireturn dL_law_477 ⟨.boolean, rfl, by decide⟩ hq (fun z => by cases z)
theorem bL_law_478 {L b1 b2 : Nat} {xs : Nat → Int} {Q : RS → Nat → AH → Prop} {h : AH} (hL : L < 4000 := by omega) {l4 l5 l6 : Int}  (r1 : -2147483648 ≤ l5 ∧ l5 < 2147483648 := by omega) (kt : ¬ l5 = 0 → Wp mL_law (kL L xs) Q (b1, b2) 495 [zR (-100), zR 1, zR 98, zR 137, zI l4, zI l5, zI l6] [] 137 h) (kf : l5 = 0 → Wp mL_law (kL L xs) Q (b1, b2) 483 [zR (-100), zR 1, zR 98, zR 137, zI l4, zI l5, zI l6] [] 137 h) : Wp mL_law (kL L xs) Q (b1, b2) 478 [zR (-100), zR 1, zR 98, zR 137, zI l4, zI l5, zI l6] [] 137 h := by
  refine s_iload (x := l5) dL_law_478 rfl ?_
  exact s_if_ne (tgt := 495) dL_law_480 (by decide) r1 kt kf
theorem bL_law_483 {L b1 b2 : Nat} {xs : Nat → Int} {Q : RS → Nat → AH → Prop} {h : AH} (hL : L < 4000 := by omega) {l4 l6 : Int} {x5 : AV}  (r1 : -2147483648 ≤ (lg_cmp (Int64.ofInt (h 137 0)) (Int64.ofInt (i2l l6))).toInt ∧ (lg_cmp (Int64.ofInt (h 137 0)) (Int64.ofInt (i2l l6))).toInt < 2147483648 := by omega) (kt : (lg_cmp (Int64.ofInt (h 137 0)) (Int64.ofInt (i2l l6))).toInt = 0 → Wp mL_law (kL L xs) Q (b1, b2) 495 [zR (-100), zR 1, zR 98, zR 137, zI l4, none, zI l6] [] 137 h) (kf : ¬ (lg_cmp (Int64.ofInt (h 137 0)) (Int64.ofInt (i2l l6))).toInt = 0 → Wp mL_law (kL L xs) Q (b1, b2) 493 [zR (-100), zR 1, zR 98, zR 137, zI l4, none, zI l6] [] 137 h) : Wp mL_law (kL L xs) Q (b1, b2) 483 [zR (-100), zR 1, zR 98, zR 137, zI l4, x5, zI l6] [] 137 h := by
  refine s_fgt (fgt_c (fgt_c (fgt_c (fgt_c (fgt_c (fgt_n _ (fgt_c fgt_0))))))) ?_
  refine s_aload_n (x := 137) dL_law_483 rfl ?_
  refine s_iconst dL_law_484 ?_
  refine s_lald (c := 137) (i := 0) dL_law_485 e137 (by decide) (by decide) ?_
  refine s_iload (x := l6) dL_law_486 rfl ?_
  refine s_i2l dL_law_488 ?_
  refine s_lcmp dL_law_489 ?_
  exact s_if_eq (tgt := 495) dL_law_490 (by decide) r1 kt kf
theorem bL_law_493 {L b1 b2 : Nat} {xs : Nat → Int} {Q : RS → Nat → AH → Prop} {h : AH} (hL : L < 4000 := by omega) {x0 x1 x2 x3 x4 x5 x6 : AV}   (hq : Q (.inl (some (zI 0))) 137 h) : Wp mL_law (kL L xs) Q (b1, b2) 493 [x0, x1, x2, x3, x4, x5, x6] [] 137 h := by
  refine s_fgt (fgt_n _ (fgt_n _ (fgt_n _ (fgt_n _ (fgt_n _ (fgt_n _ (fgt_n _ fgt_0))))))) ?_
  refine s_iconst dL_law_493 ?_
  exact s_ireturn dL_law_494 ⟨.boolean, rfl, by decide⟩ hq (fun z => by cases z)
theorem bL_law_495 {L b1 b2 : Nat} {xs : Nat → Int} {Q : RS → Nat → AH → Prop} {h : AH} (hL : L < 4000 := by omega) {l4 : Int} {x5 x6 : AV}   (kk : Wp mL_law (kL L xs) Q (b1, b2) 1771 [zR (-100), zR 1, zR 98, zR 137, zI l4, none, none] [] 137 h) : Wp mL_law (kL L xs) Q (b1, b2) 495 [zR (-100), zR 1, zR 98, zR 137, zI l4, x5, x6] [] 137 h := by
  refine s_fgt (fgt_c (fgt_c (fgt_c (fgt_c (fgt_c (fgt_n _ (fgt_n _ fgt_0))))))) ?_
  exact s_goto (tgt := 1771) dL_law_495 (by decide) kk
theorem bL_law_498 {L b1 b2 : Nat} {xs : Nat → Int} {Q : RS → Nat → AH → Prop} {h : AH} (hL : L < 4000 := by omega) {l4 : Int} {x5 x6 : AV} {R : Int → AH → Prop}  (r1 : 0 ≤ l4 + 1 ∧ l4 + 1 < (L : Int) := by omega) (r2 : 0 ≤ l4 + 2 ∧ l4 + 2 < (L : Int) := by omega) (hS : Sp mL_say true (1000 - 1) 8 48 [zR 1, zI (xs (l4 + 1).toNat), zI (xs (l4 + 2).toNat), zR 137] 137 h (rI R)) (hf : 1 ≤ 1000 := by omega) (g1 : 8 ≤ b1 := by omega) (g2 : 48 ≤ b2 := by omega) (kk : ∀ (x : Int) (h' : AH), R x h' → Wp mL_law (kL L xs) Q (b1 - 8, b2 - 48) 515 [zR (-100), zR 1, zR 98, zR 137, zI l4, none, none] [zI x] 137 h') : Wp mL_law (kL L xs) Q (b1, b2) 498 [zR (-100), zR 1, zR 98, zR 137, zI l4, x5, x6] [] 137 h := by
  refine s_fgt (fgt_c (fgt_c (fgt_c (fgt_c (fgt_c (fgt_n _ (fgt_n _ fgt_0))))))) ?_
  refine s_aload_n (x := 1) dL_law_498 rfl ?_
  refine s_aload_n (x := (-100)) dL_law_499 rfl ?_
  refine s_iload (x := l4) dL_law_500 rfl ?_
  refine s_iconst dL_law_502 ?_
  refine s_iadd dL_law_503 ?_
  refine s_sld (i := l4 + 1) rfl dL_law_504 r1.1 r1.2 hL ?_
  refine s_aload_n (x := (-100)) dL_law_505 rfl ?_
  refine s_iload (x := l4) dL_law_506 rfl ?_
  refine s_iconst dL_law_508 ?_
  refine s_iadd dL_law_509 ?_
  refine s_sld (i := l4 + 2) rfl dL_law_510 r2.1 r2.2 hL ?_
  refine s_aload_n (x := 137) dL_law_511 rfl ?_
  exact s_callS (as := [zR 1, zI (xs (l4 + 1).toNat), zI (xs (l4 + 2).toNat), zR 137]) (st := []) dL_law_512 kL_114 rfl rfl (Nat.le_of_ble_eq_true rfl) hS (show 1000 - 1 + 1 ≤ 1000 by omega) g1 g2 (fun v n' h' hP _ => by obtain ⟨x, e, rfl, hR⟩ := hP; cases e; exact kk x h' hR) (fun E n' h' _ z => (rI_nt _ _ _ z).elim)
theorem bL_law_515 {L b1 b2 : Nat} {xs : Nat → Int} {Q : RS → Nat → AH → Prop} {h : AH} (hL : L < 4000 := by omega) {l4 s0 : Int} {x5 x6 : AV} {R : Int → AH → Prop}  (r1 : 0 ≤ l4 + 1 ∧ l4 + 1 < (L : Int) := by omega) (r2 : 0 ≤ l4 + 2 ∧ l4 + 2 < (L : Int) := by omega) (hS : Sp mX12_say true (1000 - 1) 0 0 [zR 98, zI (xs (l4 + 1).toNat), zI (xs (l4 + 2).toNat)] 137 h (rI R)) (hf : 1 ≤ 1000 := by omega) (kk : ∀ (x : Int) (h' : AH), R x h' → Wp mL_law (kL L xs) Q (b1, b2) 533 [zR (-100), zR 1, zR 98, zR 137, zI l4, zI s0, none] [zI x] 137 h') : Wp mL_law (kL L xs) Q (b1, b2) 515 [zR (-100), zR 1, zR 98, zR 137, zI l4, x5, x6] [zI s0] 137 h := by
  refine s_fgt (fgt_c (fgt_c (fgt_c (fgt_c (fgt_c (fgt_n _ (fgt_n _ fgt_0))))))) ?_
  refine s_istore dL_law_515 rfl (by decide) ?_
  refine s_aload_n (x := 98) dL_law_517 rfl ?_
  refine s_aload_n (x := (-100)) dL_law_518 rfl ?_
  refine s_iload (x := l4) dL_law_519 rfl ?_
  refine s_iconst dL_law_521 ?_
  refine s_iadd dL_law_522 ?_
  refine s_sld (i := l4 + 1) rfl dL_law_523 r1.1 r1.2 hL ?_
  refine s_aload_n (x := (-100)) dL_law_524 rfl ?_
  refine s_iload (x := l4) dL_law_525 rfl ?_
  refine s_iconst dL_law_527 ?_
  refine s_iadd dL_law_528 ?_
  refine s_sld (i := l4 + 2) rfl dL_law_529 r2.1 r2.2 hL ?_
  exact s_callV (as := [zI (xs (l4 + 1).toNat), zI (xs (l4 + 2).toNat)]) (st := []) (o := 98) dL_law_530 kL_116 rfl ⟨12, 87, TX12, e98, rfl, by decide⟩ rfl rfl (Nat.le_of_ble_eq_true rfl) hS (show 1000 - 1 + 1 ≤ 1000 by omega) (Nat.zero_le _) (Nat.zero_le _) (fun v n' h' hP _ => by obtain ⟨x, e, rfl, hR⟩ := hP; cases e; exact kk x h' hR) (fun E n' h' _ z => (rI_nt _ _ _ z).elim)
theorem bL_law_533 {L b1 b2 : Nat} {xs : Nat → Int} {Q : RS → Nat → AH → Prop} {h : AH} (hL : L < 4000 := by omega) {l4 l5 s0 : Int} {x6 : AV} {R : Int → AH → Prop}   (hS : Sp mX12_thrown true (1000 - 1) 0 0 [zR 98] 137 h (rI R)) (hf : 1 ≤ 1000 := by omega) (kk : ∀ (x : Int) (h' : AH), R x h' → Wp mL_law (kL L xs) Q (b1, b2) 539 [zR (-100), zR 1, zR 98, zR 137, zI l4, zI l5, zI s0] [zI x] 137 h') : Wp mL_law (kL L xs) Q (b1, b2) 533 [zR (-100), zR 1, zR 98, zR 137, zI l4, zI l5, x6] [zI s0] 137 h := by
  refine s_fgt (fgt_c (fgt_c (fgt_c (fgt_c (fgt_c (fgt_c (fgt_n _ fgt_0))))))) ?_
  refine s_istore dL_law_533 rfl (by decide) ?_
  refine s_aload_n (x := 98) dL_law_535 rfl ?_
  exact s_callV (as := []) (st := []) (o := 98) dL_law_536 kL_96 rfl ⟨12, 87, TX12, e98, rfl, by decide⟩ rfl rfl (Nat.le_of_ble_eq_true rfl) hS (show 1000 - 1 + 1 ≤ 1000 by omega) (Nat.zero_le _) (Nat.zero_le _) (fun v n' h' hP _ => by obtain ⟨x, e, rfl, hR⟩ := hP; cases e; exact kk x h' hR) (fun E n' h' _ z => (rI_nt _ _ _ z).elim)
theorem bL_law_539 {L b1 b2 : Nat} {xs : Nat → Int} {Q : RS → Nat → AH → Prop} {h : AH} (hL : L < 4000 := by omega) {l4 l5 l6 s0 : Int}  (r1 : -2147483648 ≤ s0 ∧ s0 < 2147483648 := by omega) (r2 : -2147483648 ≤ l5 ∧ l5 < 2147483648 := by omega) (kt : s0 = l5 → Wp mL_law (kL L xs) Q (b1, b2) 546 [zR (-100), zR 1, zR 98, zR 137, zI l4, zI l5, zI l6] [] 137 h) (kf : ¬ s0 = l5 → Wp mL_law (kL L xs) Q (b1, b2) 544 [zR (-100), zR 1, zR 98, zR 137, zI l4, zI l5, zI l6] [] 137 h) : Wp mL_law (kL L xs) Q (b1, b2) 539 [zR (-100), zR 1, zR 98, zR 137, zI l4, zI l5, zI l6] [zI s0] 137 h := by
  refine s_iload (x := l5) dL_law_539 rfl ?_
  exact s_icmp_eq (tgt := 546) dL_law_541 (by decide) r1 r2 kt kf
theorem bL_law_544 {L b1 b2 : Nat} {xs : Nat → Int} {Q : RS → Nat → AH → Prop} {h : AH} (hL : L < 4000 := by omega) {x0 x1 x2 x3 x4 x5 x6 : AV}   (hq : Q (.inl (some (zI 0))) 137 h) : Wp mL_law (kL L xs) Q (b1, b2) 544 [x0, x1, x2, x3, x4, x5, x6] [] 137 h := by
  refine s_fgt (fgt_n _ (fgt_n _ (fgt_n _ (fgt_n _ (fgt_n _ (fgt_n _ (fgt_n _ fgt_0))))))) ?_
  refine s_iconst dL_law_544 ?_
  exact s_ireturn dL_law_545 ⟨.boolean, rfl, by decide⟩ hq (fun z => by cases z)
theorem bL_law_546 {L b1 b2 : Nat} {xs : Nat → Int} {Q : RS → Nat → AH → Prop} {h : AH} (hL : L < 4000 := by omega) {l4 l5 l6 : Int}  (r1 : -2147483648 ≤ l5 ∧ l5 < 2147483648 := by omega) (kt : ¬ l5 = 0 → Wp mL_law (kL L xs) Q (b1, b2) 563 [zR (-100), zR 1, zR 98, zR 137, zI l4, zI l5, zI l6] [] 137 h) (kf : l5 = 0 → Wp mL_law (kL L xs) Q (b1, b2) 551 [zR (-100), zR 1, zR 98, zR 137, zI l4, zI l5, zI l6] [] 137 h) : Wp mL_law (kL L xs) Q (b1, b2) 546 [zR (-100), zR 1, zR 98, zR 137, zI l4, zI l5, zI l6] [] 137 h := by
  refine s_iload (x := l5) dL_law_546 rfl ?_
  exact s_if_ne (tgt := 563) dL_law_548 (by decide) r1 kt kf
theorem bL_law_551 {L b1 b2 : Nat} {xs : Nat → Int} {Q : RS → Nat → AH → Prop} {h : AH} (hL : L < 4000 := by omega) {l4 l6 : Int} {x5 : AV}  (r1 : -2147483648 ≤ (lg_cmp (Int64.ofInt (h 137 0)) (Int64.ofInt (i2l l6))).toInt ∧ (lg_cmp (Int64.ofInt (h 137 0)) (Int64.ofInt (i2l l6))).toInt < 2147483648 := by omega) (kt : (lg_cmp (Int64.ofInt (h 137 0)) (Int64.ofInt (i2l l6))).toInt = 0 → Wp mL_law (kL L xs) Q (b1, b2) 563 [zR (-100), zR 1, zR 98, zR 137, zI l4, none, zI l6] [] 137 h) (kf : ¬ (lg_cmp (Int64.ofInt (h 137 0)) (Int64.ofInt (i2l l6))).toInt = 0 → Wp mL_law (kL L xs) Q (b1, b2) 561 [zR (-100), zR 1, zR 98, zR 137, zI l4, none, zI l6] [] 137 h) : Wp mL_law (kL L xs) Q (b1, b2) 551 [zR (-100), zR 1, zR 98, zR 137, zI l4, x5, zI l6] [] 137 h := by
  refine s_fgt (fgt_c (fgt_c (fgt_c (fgt_c (fgt_c (fgt_n _ (fgt_c fgt_0))))))) ?_
  refine s_aload_n (x := 137) dL_law_551 rfl ?_
  refine s_iconst dL_law_552 ?_
  refine s_lald (c := 137) (i := 0) dL_law_553 e137 (by decide) (by decide) ?_
  refine s_iload (x := l6) dL_law_554 rfl ?_
  refine s_i2l dL_law_556 ?_
  refine s_lcmp dL_law_557 ?_
  exact s_if_eq (tgt := 563) dL_law_558 (by decide) r1 kt kf
theorem bL_law_561 {L b1 b2 : Nat} {xs : Nat → Int} {Q : RS → Nat → AH → Prop} {h : AH} (hL : L < 4000 := by omega) {x0 x1 x2 x3 x4 x5 x6 : AV}   (hq : Q (.inl (some (zI 0))) 137 h) : Wp mL_law (kL L xs) Q (b1, b2) 561 [x0, x1, x2, x3, x4, x5, x6] [] 137 h := by
  refine s_fgt (fgt_n _ (fgt_n _ (fgt_n _ (fgt_n _ (fgt_n _ (fgt_n _ (fgt_n _ fgt_0))))))) ?_
  refine s_iconst dL_law_561 ?_
  exact s_ireturn dL_law_562 ⟨.boolean, rfl, by decide⟩ hq (fun z => by cases z)
theorem bL_law_563 {L b1 b2 : Nat} {xs : Nat → Int} {Q : RS → Nat → AH → Prop} {h : AH} (hL : L < 4000 := by omega) {l4 : Int} {x5 x6 : AV}   (kk : Wp mL_law (kL L xs) Q (b1, b2) 1771 [zR (-100), zR 1, zR 98, zR 137, zI l4, none, none] [] 137 h) : Wp mL_law (kL L xs) Q (b1, b2) 563 [zR (-100), zR 1, zR 98, zR 137, zI l4, x5, x6] [] 137 h := by
  refine s_fgt (fgt_c (fgt_c (fgt_c (fgt_c (fgt_c (fgt_n _ (fgt_n _ fgt_0))))))) ?_
  exact s_goto (tgt := 1771) dL_law_563 (by decide) kk
theorem bL_law_566 {L b1 b2 : Nat} {xs : Nat → Int} {Q : RS → Nat → AH → Prop} {h : AH} (hL : L < 4000 := by omega) {l4 : Int} {x5 x6 : AV} {R : Int → AH → Prop}   (hS : Sp mX11_hush true (1000 - 1) 0 0 [zR 1] 137 h (rI R)) (hf : 1 ≤ 1000 := by omega) (kk : ∀ (x : Int) (h' : AH), R x h' → Wp mL_law (kL L xs) Q (b1, b2) 570 [zR (-100), zR 1, zR 98, zR 137, zI l4, none, none] [zI x] 137 h') : Wp mL_law (kL L xs) Q (b1, b2) 566 [zR (-100), zR 1, zR 98, zR 137, zI l4, x5, x6] [] 137 h := by
  refine s_fgt (fgt_c (fgt_c (fgt_c (fgt_c (fgt_c (fgt_n _ (fgt_n _ fgt_0))))))) ?_
  refine s_aload_n (x := 1) dL_law_566 rfl ?_
  exact s_callV (as := []) (st := []) (o := 1) dL_law_567 kL_117 rfl ⟨11, 18, TX11, e1, rfl, by decide⟩ rfl rfl (Nat.le_of_ble_eq_true rfl) hS (show 1000 - 1 + 1 ≤ 1000 by omega) (Nat.zero_le _) (Nat.zero_le _) (fun v n' h' hP _ => by obtain ⟨x, e, rfl, hR⟩ := hP; cases e; exact kk x h' hR) (fun E n' h' _ z => (rI_nt _ _ _ z).elim)
theorem bL_law_570 {L b1 b2 : Nat} {xs : Nat → Int} {Q : RS → Nat → AH → Prop} {h : AH} (hL : L < 4000 := by omega) {l4 s0 : Int} {x5 x6 : AV} {R : Int → AH → Prop}   (hS : Sp mX12_hush true (1000 - 1) 0 0 [zR 98] 137 h (rI R)) (hf : 1 ≤ 1000 := by omega) (kk : ∀ (x : Int) (h' : AH), R x h' → Wp mL_law (kL L xs) Q (b1, b2) 574 [zR (-100), zR 1, zR 98, zR 137, zI l4, none, none] [zI x, zI s0] 137 h') : Wp mL_law (kL L xs) Q (b1, b2) 570 [zR (-100), zR 1, zR 98, zR 137, zI l4, x5, x6] [zI s0] 137 h := by
  refine s_fgt (fgt_c (fgt_c (fgt_c (fgt_c (fgt_c (fgt_n _ (fgt_n _ fgt_0))))))) ?_
  refine s_aload_n (x := 98) dL_law_570 rfl ?_
  exact s_callV (as := []) (st := [zI s0]) (o := 98) dL_law_571 kL_120 rfl ⟨12, 87, TX12, e98, rfl, by decide⟩ rfl rfl (Nat.le_of_ble_eq_true rfl) hS (show 1000 - 1 + 1 ≤ 1000 by omega) (Nat.zero_le _) (Nat.zero_le _) (fun v n' h' hP _ => by obtain ⟨x, e, rfl, hR⟩ := hP; cases e; exact kk x h' hR) (fun E n' h' _ z => (rI_nt _ _ _ z).elim)
theorem bL_law_574 {L b1 b2 : Nat} {xs : Nat → Int} {Q : RS → Nat → AH → Prop} {h : AH} (hL : L < 4000 := by omega) {l4 s1 s0 : Int} {x5 x6 : AV}  (r1 : -2147483648 ≤ s1 ∧ s1 < 2147483648 := by omega) (r2 : -2147483648 ≤ s0 ∧ s0 < 2147483648 := by omega) (kt : s1 = s0 → Wp mL_law (kL L xs) Q (b1, b2) 1771 [zR (-100), zR 1, zR 98, zR 137, zI l4, none, none] [] 137 h) (kf : ¬ s1 = s0 → Wp mL_law (kL L xs) Q (b1, b2) 577 [zR (-100), zR 1, zR 98, zR 137, zI l4, none, none] [] 137 h) : Wp mL_law (kL L xs) Q (b1, b2) 574 [zR (-100), zR 1, zR 98, zR 137, zI l4, x5, x6] [zI s0, zI s1] 137 h := by
  refine s_fgt (fgt_c (fgt_c (fgt_c (fgt_c (fgt_c (fgt_n _ (fgt_n _ fgt_0))))))) ?_
  exact s_icmp_eq (tgt := 1771) dL_law_574 (by decide) r1 r2 kt kf
theorem bL_law_577 {L b1 b2 : Nat} {xs : Nat → Int} {Q : RS → Nat → AH → Prop} {h : AH} (hL : L < 4000 := by omega) {x0 x1 x2 x3 x4 x5 x6 : AV}   (hq : Q (.inl (some (zI 0))) 137 h) : Wp mL_law (kL L xs) Q (b1, b2) 577 [x0, x1, x2, x3, x4, x5, x6] [] 137 h := by
  refine s_fgt (fgt_n _ (fgt_n _ (fgt_n _ (fgt_n _ (fgt_n _ (fgt_n _ (fgt_n _ fgt_0))))))) ?_
  refine s_iconst dL_law_577 ?_
  exact s_ireturn dL_law_578 ⟨.boolean, rfl, by decide⟩ hq (fun z => by cases z)
theorem bL_law_579 {L b1 b2 : Nat} {xs : Nat → Int} {Q : RS → Nat → AH → Prop} {h : AH} (hL : L < 4000 := by omega) {l4 : Int} {x5 x6 : AV} {R : Int → AH → Prop}  (r1 : 0 ≤ l4 + 1 ∧ l4 + 1 < (L : Int) := by omega) (r2 : 0 ≤ l4 + 2 ∧ l4 + 2 < (L : Int) := by omega) (r3 : 0 ≤ l4 + 3 ∧ l4 + 3 < (L : Int) := by omega) (hS : Sp mL_heard true (1000 - 1) 8 48 [zR 1, zI (xs (l4 + 1).toNat), zI (xs (l4 + 2).toNat), zI (xs (l4 + 3).toNat), zR 137] 137 h (rI R)) (hf : 1 ≤ 1000 := by omega) (g1 : 8 ≤ b1 := by omega) (g2 : 48 ≤ b2 := by omega) (kk : ∀ (x : Int) (h' : AH), R x h' → Wp mL_law (kL L xs) Q (b1 - 8, b2 - 48) 602 [zR (-100), zR 1, zR 98, zR 137, zI l4, none, none] [zI x] 137 h') : Wp mL_law (kL L xs) Q (b1, b2) 579 [zR (-100), zR 1, zR 98, zR 137, zI l4, x5, x6] [] 137 h := by
  refine s_fgt (fgt_c (fgt_c (fgt_c (fgt_c (fgt_c (fgt_n _ (fgt_n _ fgt_0))))))) ?_
  refine s_aload_n (x := 1) dL_law_579 rfl ?_
  refine s_aload_n (x := (-100)) dL_law_580 rfl ?_
  refine s_iload (x := l4) dL_law_581 rfl ?_
  refine s_iconst dL_law_583 ?_
  refine s_iadd dL_law_584 ?_
  refine s_sld (i := l4 + 1) rfl dL_law_585 r1.1 r1.2 hL ?_
  refine s_aload_n (x := (-100)) dL_law_586 rfl ?_
  refine s_iload (x := l4) dL_law_587 rfl ?_
  refine s_iconst dL_law_589 ?_
  refine s_iadd dL_law_590 ?_
  refine s_sld (i := l4 + 2) rfl dL_law_591 r2.1 r2.2 hL ?_
  refine s_aload_n (x := (-100)) dL_law_592 rfl ?_
  refine s_iload (x := l4) dL_law_593 rfl ?_
  refine s_iconst dL_law_595 ?_
  refine s_iadd dL_law_596 ?_
  refine s_sld (i := l4 + 3) rfl dL_law_597 r3.1 r3.2 hL ?_
  refine s_aload_n (x := 137) dL_law_598 rfl ?_
  exact s_callS (as := [zR 1, zI (xs (l4 + 1).toNat), zI (xs (l4 + 2).toNat), zI (xs (l4 + 3).toNat), zR 137]) (st := []) dL_law_599 kL_121 rfl rfl (Nat.le_of_ble_eq_true rfl) hS (show 1000 - 1 + 1 ≤ 1000 by omega) g1 g2 (fun v n' h' hP _ => by obtain ⟨x, e, rfl, hR⟩ := hP; cases e; exact kk x h' hR) (fun E n' h' _ z => (rI_nt _ _ _ z).elim)
theorem bL_law_602 {L b1 b2 : Nat} {xs : Nat → Int} {Q : RS → Nat → AH → Prop} {h : AH} (hL : L < 4000 := by omega) {l4 s0 : Int} {x5 x6 : AV} {R : Int → AH → Prop}  (r1 : 0 ≤ l4 + 1 ∧ l4 + 1 < (L : Int) := by omega) (r2 : 0 ≤ l4 + 2 ∧ l4 + 2 < (L : Int) := by omega) (r3 : 0 ≤ l4 + 3 ∧ l4 + 3 < (L : Int) := by omega) (hS : Sp mX12_heard true (1000 - 1) 0 0 [zR 98, zI (xs (l4 + 1).toNat), zI (xs (l4 + 2).toNat), zI (xs (l4 + 3).toNat)] 137 h (rI R)) (hf : 1 ≤ 1000 := by omega) (kk : ∀ (x : Int) (h' : AH), R x h' → Wp mL_law (kL L xs) Q (b1, b2) 626 [zR (-100), zR 1, zR 98, zR 137, zI l4, zI s0, none] [zI x] 137 h') : Wp mL_law (kL L xs) Q (b1, b2) 602 [zR (-100), zR 1, zR 98, zR 137, zI l4, x5, x6] [zI s0] 137 h := by
  refine s_fgt (fgt_c (fgt_c (fgt_c (fgt_c (fgt_c (fgt_n _ (fgt_n _ fgt_0))))))) ?_
  refine s_istore dL_law_602 rfl (by decide) ?_
  refine s_aload_n (x := 98) dL_law_604 rfl ?_
  refine s_aload_n (x := (-100)) dL_law_605 rfl ?_
  refine s_iload (x := l4) dL_law_606 rfl ?_
  refine s_iconst dL_law_608 ?_
  refine s_iadd dL_law_609 ?_
  refine s_sld (i := l4 + 1) rfl dL_law_610 r1.1 r1.2 hL ?_
  refine s_aload_n (x := (-100)) dL_law_611 rfl ?_
  refine s_iload (x := l4) dL_law_612 rfl ?_
  refine s_iconst dL_law_614 ?_
  refine s_iadd dL_law_615 ?_
  refine s_sld (i := l4 + 2) rfl dL_law_616 r2.1 r2.2 hL ?_
  refine s_aload_n (x := (-100)) dL_law_617 rfl ?_
  refine s_iload (x := l4) dL_law_618 rfl ?_
  refine s_iconst dL_law_620 ?_
  refine s_iadd dL_law_621 ?_
  refine s_sld (i := l4 + 3) rfl dL_law_622 r3.1 r3.2 hL ?_
  exact s_callV (as := [zI (xs (l4 + 1).toNat), zI (xs (l4 + 2).toNat), zI (xs (l4 + 3).toNat)]) (st := []) (o := 98) dL_law_623 kL_124 rfl ⟨12, 87, TX12, e98, rfl, by decide⟩ rfl rfl (Nat.le_of_ble_eq_true rfl) hS (show 1000 - 1 + 1 ≤ 1000 by omega) (Nat.zero_le _) (Nat.zero_le _) (fun v n' h' hP _ => by obtain ⟨x, e, rfl, hR⟩ := hP; cases e; exact kk x h' hR) (fun E n' h' _ z => (rI_nt _ _ _ z).elim)
theorem bL_law_626 {L b1 b2 : Nat} {xs : Nat → Int} {Q : RS → Nat → AH → Prop} {h : AH} (hL : L < 4000 := by omega) {l4 l5 s0 : Int} {x6 : AV} {R : Int → AH → Prop}   (hS : Sp mX12_thrown true (1000 - 1) 0 0 [zR 98] 137 h (rI R)) (hf : 1 ≤ 1000 := by omega) (kk : ∀ (x : Int) (h' : AH), R x h' → Wp mL_law (kL L xs) Q (b1, b2) 632 [zR (-100), zR 1, zR 98, zR 137, zI l4, zI l5, zI s0] [zI x] 137 h') : Wp mL_law (kL L xs) Q (b1, b2) 626 [zR (-100), zR 1, zR 98, zR 137, zI l4, zI l5, x6] [zI s0] 137 h := by
  refine s_fgt (fgt_c (fgt_c (fgt_c (fgt_c (fgt_c (fgt_c (fgt_n _ fgt_0))))))) ?_
  refine s_istore dL_law_626 rfl (by decide) ?_
  refine s_aload_n (x := 98) dL_law_628 rfl ?_
  exact s_callV (as := []) (st := []) (o := 98) dL_law_629 kL_96 rfl ⟨12, 87, TX12, e98, rfl, by decide⟩ rfl rfl (Nat.le_of_ble_eq_true rfl) hS (show 1000 - 1 + 1 ≤ 1000 by omega) (Nat.zero_le _) (Nat.zero_le _) (fun v n' h' hP _ => by obtain ⟨x, e, rfl, hR⟩ := hP; cases e; exact kk x h' hR) (fun E n' h' _ z => (rI_nt _ _ _ z).elim)
theorem bL_law_632 {L b1 b2 : Nat} {xs : Nat → Int} {Q : RS → Nat → AH → Prop} {h : AH} (hL : L < 4000 := by omega) {l4 l5 l6 s0 : Int}  (r1 : -2147483648 ≤ s0 ∧ s0 < 2147483648 := by omega) (r2 : -2147483648 ≤ l5 ∧ l5 < 2147483648 := by omega) (kt : s0 = l5 → Wp mL_law (kL L xs) Q (b1, b2) 639 [zR (-100), zR 1, zR 98, zR 137, zI l4, zI l5, zI l6] [] 137 h) (kf : ¬ s0 = l5 → Wp mL_law (kL L xs) Q (b1, b2) 637 [zR (-100), zR 1, zR 98, zR 137, zI l4, zI l5, zI l6] [] 137 h) : Wp mL_law (kL L xs) Q (b1, b2) 632 [zR (-100), zR 1, zR 98, zR 137, zI l4, zI l5, zI l6] [zI s0] 137 h := by
  refine s_iload (x := l5) dL_law_632 rfl ?_
  exact s_icmp_eq (tgt := 639) dL_law_634 (by decide) r1 r2 kt kf
theorem bL_law_637 {L b1 b2 : Nat} {xs : Nat → Int} {Q : RS → Nat → AH → Prop} {h : AH} (hL : L < 4000 := by omega) {x0 x1 x2 x3 x4 x5 x6 : AV}   (hq : Q (.inl (some (zI 0))) 137 h) : Wp mL_law (kL L xs) Q (b1, b2) 637 [x0, x1, x2, x3, x4, x5, x6] [] 137 h := by
  refine s_fgt (fgt_n _ (fgt_n _ (fgt_n _ (fgt_n _ (fgt_n _ (fgt_n _ (fgt_n _ fgt_0))))))) ?_
  refine s_iconst dL_law_637 ?_
  exact s_ireturn dL_law_638 ⟨.boolean, rfl, by decide⟩ hq (fun z => by cases z)
theorem bL_law_639 {L b1 b2 : Nat} {xs : Nat → Int} {Q : RS → Nat → AH → Prop} {h : AH} (hL : L < 4000 := by omega) {l4 l5 l6 : Int}  (r1 : -2147483648 ≤ l5 ∧ l5 < 2147483648 := by omega) (kt : ¬ l5 = 0 → Wp mL_law (kL L xs) Q (b1, b2) 656 [zR (-100), zR 1, zR 98, zR 137, zI l4, zI l5, zI l6] [] 137 h) (kf : l5 = 0 → Wp mL_law (kL L xs) Q (b1, b2) 644 [zR (-100), zR 1, zR 98, zR 137, zI l4, zI l5, zI l6] [] 137 h) : Wp mL_law (kL L xs) Q (b1, b2) 639 [zR (-100), zR 1, zR 98, zR 137, zI l4, zI l5, zI l6] [] 137 h := by
  refine s_iload (x := l5) dL_law_639 rfl ?_
  exact s_if_ne (tgt := 656) dL_law_641 (by decide) r1 kt kf
theorem bL_law_644 {L b1 b2 : Nat} {xs : Nat → Int} {Q : RS → Nat → AH → Prop} {h : AH} (hL : L < 4000 := by omega) {l4 l6 : Int} {x5 : AV}  (r1 : -2147483648 ≤ (lg_cmp (Int64.ofInt (h 137 0)) (Int64.ofInt (i2l l6))).toInt ∧ (lg_cmp (Int64.ofInt (h 137 0)) (Int64.ofInt (i2l l6))).toInt < 2147483648 := by omega) (kt : (lg_cmp (Int64.ofInt (h 137 0)) (Int64.ofInt (i2l l6))).toInt = 0 → Wp mL_law (kL L xs) Q (b1, b2) 656 [zR (-100), zR 1, zR 98, zR 137, zI l4, none, zI l6] [] 137 h) (kf : ¬ (lg_cmp (Int64.ofInt (h 137 0)) (Int64.ofInt (i2l l6))).toInt = 0 → Wp mL_law (kL L xs) Q (b1, b2) 654 [zR (-100), zR 1, zR 98, zR 137, zI l4, none, zI l6] [] 137 h) : Wp mL_law (kL L xs) Q (b1, b2) 644 [zR (-100), zR 1, zR 98, zR 137, zI l4, x5, zI l6] [] 137 h := by
  refine s_fgt (fgt_c (fgt_c (fgt_c (fgt_c (fgt_c (fgt_n _ (fgt_c fgt_0))))))) ?_
  refine s_aload_n (x := 137) dL_law_644 rfl ?_
  refine s_iconst dL_law_645 ?_
  refine s_lald (c := 137) (i := 0) dL_law_646 e137 (by decide) (by decide) ?_
  refine s_iload (x := l6) dL_law_647 rfl ?_
  refine s_i2l dL_law_649 ?_
  refine s_lcmp dL_law_650 ?_
  exact s_if_eq (tgt := 656) dL_law_651 (by decide) r1 kt kf
theorem bL_law_654 {L b1 b2 : Nat} {xs : Nat → Int} {Q : RS → Nat → AH → Prop} {h : AH} (hL : L < 4000 := by omega) {x0 x1 x2 x3 x4 x5 x6 : AV}   (hq : Q (.inl (some (zI 0))) 137 h) : Wp mL_law (kL L xs) Q (b1, b2) 654 [x0, x1, x2, x3, x4, x5, x6] [] 137 h := by
  refine s_fgt (fgt_n _ (fgt_n _ (fgt_n _ (fgt_n _ (fgt_n _ (fgt_n _ (fgt_n _ fgt_0))))))) ?_
  refine s_iconst dL_law_654 ?_
  exact s_ireturn dL_law_655 ⟨.boolean, rfl, by decide⟩ hq (fun z => by cases z)
theorem bL_law_656 {L b1 b2 : Nat} {xs : Nat → Int} {Q : RS → Nat → AH → Prop} {h : AH} (hL : L < 4000 := by omega) {l4 : Int} {x5 x6 : AV}   (kk : Wp mL_law (kL L xs) Q (b1, b2) 1771 [zR (-100), zR 1, zR 98, zR 137, zI l4, none, none] [] 137 h) : Wp mL_law (kL L xs) Q (b1, b2) 656 [zR (-100), zR 1, zR 98, zR 137, zI l4, x5, x6] [] 137 h := by
  refine s_fgt (fgt_c (fgt_c (fgt_c (fgt_c (fgt_c (fgt_n _ (fgt_n _ fgt_0))))))) ?_
  exact s_goto (tgt := 1771) dL_law_656 (by decide) kk
theorem bL_law_659 {L b1 b2 : Nat} {xs : Nat → Int} {Q : RS → Nat → AH → Prop} {h : AH} (hL : L < 4000 := by omega) {l4 : Int} {x5 x6 : AV} {R : Int → AH → Prop}  (r1 : 0 ≤ l4 + 1 ∧ l4 + 1 < (L : Int) := by omega) (r2 : 0 ≤ l4 + 2 ∧ l4 + 2 < (L : Int) := by omega) (r3 : 0 ≤ l4 + 3 ∧ l4 + 3 < (L : Int) := by omega) (r4 : 0 ≤ l4 + 4 ∧ l4 + 4 < (L : Int) := by omega) (hS : Sp mL_loud true (1000 - 1) 8 48 [zR 1, zI (xs (l4 + 1).toNat), zI (xs (l4 + 2).toNat), zI (xs (l4 + 3).toNat), zI (xs (l4 + 4).toNat), zR 137] 137 h (rI R)) (hf : 1 ≤ 1000 := by omega) (g1 : 8 ≤ b1 := by omega) (g2 : 48 ≤ b2 := by omega) (kk : ∀ (x : Int) (h' : AH), R x h' → Wp mL_law (kL L xs) Q (b1 - 8, b2 - 48) 688 [zR (-100), zR 1, zR 98, zR 137, zI l4, none, none] [zI x] 137 h') : Wp mL_law (kL L xs) Q (b1, b2) 659 [zR (-100), zR 1, zR 98, zR 137, zI l4, x5, x6] [] 137 h := by
  refine s_fgt (fgt_c (fgt_c (fgt_c (fgt_c (fgt_c (fgt_n _ (fgt_n _ fgt_0))))))) ?_
  refine s_aload_n (x := 1) dL_law_659 rfl ?_
  refine s_aload_n (x := (-100)) dL_law_660 rfl ?_
  refine s_iload (x := l4) dL_law_661 rfl ?_
  refine s_iconst dL_law_663 ?_
  refine s_iadd dL_law_664 ?_
  refine s_sld (i := l4 + 1) rfl dL_law_665 r1.1 r1.2 hL ?_
  refine s_aload_n (x := (-100)) dL_law_666 rfl ?_
  refine s_iload (x := l4) dL_law_667 rfl ?_
  refine s_iconst dL_law_669 ?_
  refine s_iadd dL_law_670 ?_
  refine s_sld (i := l4 + 2) rfl dL_law_671 r2.1 r2.2 hL ?_
  refine s_aload_n (x := (-100)) dL_law_672 rfl ?_
  refine s_iload (x := l4) dL_law_673 rfl ?_
  refine s_iconst dL_law_675 ?_
  refine s_iadd dL_law_676 ?_
  refine s_sld (i := l4 + 3) rfl dL_law_677 r3.1 r3.2 hL ?_
  refine s_aload_n (x := (-100)) dL_law_678 rfl ?_
  refine s_iload (x := l4) dL_law_679 rfl ?_
  refine s_iconst dL_law_681 ?_
  refine s_iadd dL_law_682 ?_
  refine s_sld (i := l4 + 4) rfl dL_law_683 r4.1 r4.2 hL ?_
  refine s_aload_n (x := 137) dL_law_684 rfl ?_
  exact s_callS (as := [zR 1, zI (xs (l4 + 1).toNat), zI (xs (l4 + 2).toNat), zI (xs (l4 + 3).toNat), zI (xs (l4 + 4).toNat), zR 137]) (st := []) dL_law_685 kL_125 rfl rfl (Nat.le_of_ble_eq_true rfl) hS (show 1000 - 1 + 1 ≤ 1000 by omega) g1 g2 (fun v n' h' hP _ => by obtain ⟨x, e, rfl, hR⟩ := hP; cases e; exact kk x h' hR) (fun E n' h' _ z => (rI_nt _ _ _ z).elim)
theorem bL_law_688 {L b1 b2 : Nat} {xs : Nat → Int} {Q : RS → Nat → AH → Prop} {h : AH} (hL : L < 4000 := by omega) {l4 s0 : Int} {x5 x6 : AV} {R : Int → AH → Prop}  (r1 : 0 ≤ l4 + 1 ∧ l4 + 1 < (L : Int) := by omega) (r2 : 0 ≤ l4 + 2 ∧ l4 + 2 < (L : Int) := by omega) (r3 : 0 ≤ l4 + 3 ∧ l4 + 3 < (L : Int) := by omega) (r4 : 0 ≤ l4 + 4 ∧ l4 + 4 < (L : Int) := by omega) (hS : Sp mX12_loud true (1000 - 1) 0 0 [zR 98, zI (xs (l4 + 1).toNat), zI (xs (l4 + 2).toNat), zI (xs (l4 + 3).toNat), zI (xs (l4 + 4).toNat)] 137 h (rI R)) (hf : 1 ≤ 1000 := by omega) (kk : ∀ (x : Int) (h' : AH), R x h' → Wp mL_law (kL L xs) Q (b1, b2) 718 [zR (-100), zR 1, zR 98, zR 137, zI l4, zI s0, none] [zI x] 137 h') : Wp mL_law (kL L xs) Q (b1, b2) 688 [zR (-100), zR 1, zR 98, zR 137, zI l4, x5, x6] [zI s0] 137 h := by
  refine s_fgt (fgt_c (fgt_c (fgt_c (fgt_c (fgt_c (fgt_n _ (fgt_n _ fgt_0))))))) ?_
  refine s_istore dL_law_688 rfl (by decide) ?_
  refine s_aload_n (x := 98) dL_law_690 rfl ?_
  refine s_aload_n (x := (-100)) dL_law_691 rfl ?_
  refine s_iload (x := l4) dL_law_692 rfl ?_
  refine s_iconst dL_law_694 ?_
  refine s_iadd dL_law_695 ?_
  refine s_sld (i := l4 + 1) rfl dL_law_696 r1.1 r1.2 hL ?_
  refine s_aload_n (x := (-100)) dL_law_697 rfl ?_
  refine s_iload (x := l4) dL_law_698 rfl ?_
  refine s_iconst dL_law_700 ?_
  refine s_iadd dL_law_701 ?_
  refine s_sld (i := l4 + 2) rfl dL_law_702 r2.1 r2.2 hL ?_
  refine s_aload_n (x := (-100)) dL_law_703 rfl ?_
  refine s_iload (x := l4) dL_law_704 rfl ?_
  refine s_iconst dL_law_706 ?_
  refine s_iadd dL_law_707 ?_
  refine s_sld (i := l4 + 3) rfl dL_law_708 r3.1 r3.2 hL ?_
  refine s_aload_n (x := (-100)) dL_law_709 rfl ?_
  refine s_iload (x := l4) dL_law_710 rfl ?_
  refine s_iconst dL_law_712 ?_
  refine s_iadd dL_law_713 ?_
  refine s_sld (i := l4 + 4) rfl dL_law_714 r4.1 r4.2 hL ?_
  exact s_callV (as := [zI (xs (l4 + 1).toNat), zI (xs (l4 + 2).toNat), zI (xs (l4 + 3).toNat), zI (xs (l4 + 4).toNat)]) (st := []) (o := 98) dL_law_715 kL_128 rfl ⟨12, 87, TX12, e98, rfl, by decide⟩ rfl rfl (Nat.le_of_ble_eq_true rfl) hS (show 1000 - 1 + 1 ≤ 1000 by omega) (Nat.zero_le _) (Nat.zero_le _) (fun v n' h' hP _ => by obtain ⟨x, e, rfl, hR⟩ := hP; cases e; exact kk x h' hR) (fun E n' h' _ z => (rI_nt _ _ _ z).elim)
theorem bL_law_718 {L b1 b2 : Nat} {xs : Nat → Int} {Q : RS → Nat → AH → Prop} {h : AH} (hL : L < 4000 := by omega) {l4 l5 s0 : Int} {x6 : AV} {R : Int → AH → Prop}   (hS : Sp mX12_thrown true (1000 - 1) 0 0 [zR 98] 137 h (rI R)) (hf : 1 ≤ 1000 := by omega) (kk : ∀ (x : Int) (h' : AH), R x h' → Wp mL_law (kL L xs) Q (b1, b2) 724 [zR (-100), zR 1, zR 98, zR 137, zI l4, zI l5, zI s0] [zI x] 137 h') : Wp mL_law (kL L xs) Q (b1, b2) 718 [zR (-100), zR 1, zR 98, zR 137, zI l4, zI l5, x6] [zI s0] 137 h := by
  refine s_fgt (fgt_c (fgt_c (fgt_c (fgt_c (fgt_c (fgt_c (fgt_n _ fgt_0))))))) ?_
  refine s_istore dL_law_718 rfl (by decide) ?_
  refine s_aload_n (x := 98) dL_law_720 rfl ?_
  exact s_callV (as := []) (st := []) (o := 98) dL_law_721 kL_96 rfl ⟨12, 87, TX12, e98, rfl, by decide⟩ rfl rfl (Nat.le_of_ble_eq_true rfl) hS (show 1000 - 1 + 1 ≤ 1000 by omega) (Nat.zero_le _) (Nat.zero_le _) (fun v n' h' hP _ => by obtain ⟨x, e, rfl, hR⟩ := hP; cases e; exact kk x h' hR) (fun E n' h' _ z => (rI_nt _ _ _ z).elim)
theorem bL_law_724 {L b1 b2 : Nat} {xs : Nat → Int} {Q : RS → Nat → AH → Prop} {h : AH} (hL : L < 4000 := by omega) {l4 l5 l6 s0 : Int}  (r1 : -2147483648 ≤ s0 ∧ s0 < 2147483648 := by omega) (r2 : -2147483648 ≤ l5 ∧ l5 < 2147483648 := by omega) (kt : s0 = l5 → Wp mL_law (kL L xs) Q (b1, b2) 731 [zR (-100), zR 1, zR 98, zR 137, zI l4, zI l5, zI l6] [] 137 h) (kf : ¬ s0 = l5 → Wp mL_law (kL L xs) Q (b1, b2) 729 [zR (-100), zR 1, zR 98, zR 137, zI l4, zI l5, zI l6] [] 137 h) : Wp mL_law (kL L xs) Q (b1, b2) 724 [zR (-100), zR 1, zR 98, zR 137, zI l4, zI l5, zI l6] [zI s0] 137 h := by
  refine s_iload (x := l5) dL_law_724 rfl ?_
  exact s_icmp_eq (tgt := 731) dL_law_726 (by decide) r1 r2 kt kf
theorem bL_law_729 {L b1 b2 : Nat} {xs : Nat → Int} {Q : RS → Nat → AH → Prop} {h : AH} (hL : L < 4000 := by omega) {x0 x1 x2 x3 x4 x5 x6 : AV}   (hq : Q (.inl (some (zI 0))) 137 h) : Wp mL_law (kL L xs) Q (b1, b2) 729 [x0, x1, x2, x3, x4, x5, x6] [] 137 h := by
  refine s_fgt (fgt_n _ (fgt_n _ (fgt_n _ (fgt_n _ (fgt_n _ (fgt_n _ (fgt_n _ fgt_0))))))) ?_
  refine s_iconst dL_law_729 ?_
  exact s_ireturn dL_law_730 ⟨.boolean, rfl, by decide⟩ hq (fun z => by cases z)
theorem bL_law_731 {L b1 b2 : Nat} {xs : Nat → Int} {Q : RS → Nat → AH → Prop} {h : AH} (hL : L < 4000 := by omega) {l4 l5 l6 : Int}  (r1 : -2147483648 ≤ l5 ∧ l5 < 2147483648 := by omega) (kt : ¬ l5 = 0 → Wp mL_law (kL L xs) Q (b1, b2) 748 [zR (-100), zR 1, zR 98, zR 137, zI l4, zI l5, zI l6] [] 137 h) (kf : l5 = 0 → Wp mL_law (kL L xs) Q (b1, b2) 736 [zR (-100), zR 1, zR 98, zR 137, zI l4, zI l5, zI l6] [] 137 h) : Wp mL_law (kL L xs) Q (b1, b2) 731 [zR (-100), zR 1, zR 98, zR 137, zI l4, zI l5, zI l6] [] 137 h := by
  refine s_iload (x := l5) dL_law_731 rfl ?_
  exact s_if_ne (tgt := 748) dL_law_733 (by decide) r1 kt kf
theorem bL_law_736 {L b1 b2 : Nat} {xs : Nat → Int} {Q : RS → Nat → AH → Prop} {h : AH} (hL : L < 4000 := by omega) {l4 l6 : Int} {x5 : AV}  (r1 : -2147483648 ≤ (lg_cmp (Int64.ofInt (h 137 0)) (Int64.ofInt (i2l l6))).toInt ∧ (lg_cmp (Int64.ofInt (h 137 0)) (Int64.ofInt (i2l l6))).toInt < 2147483648 := by omega) (kt : (lg_cmp (Int64.ofInt (h 137 0)) (Int64.ofInt (i2l l6))).toInt = 0 → Wp mL_law (kL L xs) Q (b1, b2) 748 [zR (-100), zR 1, zR 98, zR 137, zI l4, none, zI l6] [] 137 h) (kf : ¬ (lg_cmp (Int64.ofInt (h 137 0)) (Int64.ofInt (i2l l6))).toInt = 0 → Wp mL_law (kL L xs) Q (b1, b2) 746 [zR (-100), zR 1, zR 98, zR 137, zI l4, none, zI l6] [] 137 h) : Wp mL_law (kL L xs) Q (b1, b2) 736 [zR (-100), zR 1, zR 98, zR 137, zI l4, x5, zI l6] [] 137 h := by
  refine s_fgt (fgt_c (fgt_c (fgt_c (fgt_c (fgt_c (fgt_n _ (fgt_c fgt_0))))))) ?_
  refine s_aload_n (x := 137) dL_law_736 rfl ?_
  refine s_iconst dL_law_737 ?_
  refine s_lald (c := 137) (i := 0) dL_law_738 e137 (by decide) (by decide) ?_
  refine s_iload (x := l6) dL_law_739 rfl ?_
  refine s_i2l dL_law_741 ?_
  refine s_lcmp dL_law_742 ?_
  exact s_if_eq (tgt := 748) dL_law_743 (by decide) r1 kt kf
theorem bL_law_746 {L b1 b2 : Nat} {xs : Nat → Int} {Q : RS → Nat → AH → Prop} {h : AH} (hL : L < 4000 := by omega) {x0 x1 x2 x3 x4 x5 x6 : AV}   (hq : Q (.inl (some (zI 0))) 137 h) : Wp mL_law (kL L xs) Q (b1, b2) 746 [x0, x1, x2, x3, x4, x5, x6] [] 137 h := by
  refine s_fgt (fgt_n _ (fgt_n _ (fgt_n _ (fgt_n _ (fgt_n _ (fgt_n _ (fgt_n _ fgt_0))))))) ?_
  refine s_iconst dL_law_746 ?_
  exact s_ireturn dL_law_747 ⟨.boolean, rfl, by decide⟩ hq (fun z => by cases z)
theorem bL_law_748 {L b1 b2 : Nat} {xs : Nat → Int} {Q : RS → Nat → AH → Prop} {h : AH} (hL : L < 4000 := by omega) {l4 : Int} {x5 x6 : AV}   (kk : Wp mL_law (kL L xs) Q (b1, b2) 1771 [zR (-100), zR 1, zR 98, zR 137, zI l4, none, none] [] 137 h) : Wp mL_law (kL L xs) Q (b1, b2) 748 [zR (-100), zR 1, zR 98, zR 137, zI l4, x5, x6] [] 137 h := by
  refine s_fgt (fgt_c (fgt_c (fgt_c (fgt_c (fgt_c (fgt_n _ (fgt_n _ fgt_0))))))) ?_
  exact s_goto (tgt := 1771) dL_law_748 (by decide) kk
theorem bL_law_751 {L b1 b2 : Nat} {xs : Nat → Int} {Q : RS → Nat → AH → Prop} {h : AH} (hL : L < 4000 := by omega) {l4 : Int} {x5 x6 : AV} {R : Int → AH → Prop}  (r1 : 0 ≤ l4 + 1 ∧ l4 + 1 < (L : Int) := by omega) (r2 : 0 ≤ l4 + 2 ∧ l4 + 2 < (L : Int) := by omega) (hS : Sp mL_lines true (1000 - 1) 8 48 [zR 1, zI (xs (l4 + 1).toNat), zI (xs (l4 + 2).toNat), zR 137] 137 h (rI R)) (hf : 1 ≤ 1000 := by omega) (g1 : 8 ≤ b1 := by omega) (g2 : 48 ≤ b2 := by omega) (kk : ∀ (x : Int) (h' : AH), R x h' → Wp mL_law (kL L xs) Q (b1 - 8, b2 - 48) 768 [zR (-100), zR 1, zR 98, zR 137, zI l4, none, none] [zI x] 137 h') : Wp mL_law (kL L xs) Q (b1, b2) 751 [zR (-100), zR 1, zR 98, zR 137, zI l4, x5, x6] [] 137 h := by
  refine s_fgt (fgt_c (fgt_c (fgt_c (fgt_c (fgt_c (fgt_n _ (fgt_n _ fgt_0))))))) ?_
  refine s_aload_n (x := 1) dL_law_751 rfl ?_
  refine s_aload_n (x := (-100)) dL_law_752 rfl ?_
  refine s_iload (x := l4) dL_law_753 rfl ?_
  refine s_iconst dL_law_755 ?_
  refine s_iadd dL_law_756 ?_
  refine s_sld (i := l4 + 1) rfl dL_law_757 r1.1 r1.2 hL ?_
  refine s_aload_n (x := (-100)) dL_law_758 rfl ?_
  refine s_iload (x := l4) dL_law_759 rfl ?_
  refine s_iconst dL_law_761 ?_
  refine s_iadd dL_law_762 ?_
  refine s_sld (i := l4 + 2) rfl dL_law_763 r2.1 r2.2 hL ?_
  refine s_aload_n (x := 137) dL_law_764 rfl ?_
  exact s_callS (as := [zR 1, zI (xs (l4 + 1).toNat), zI (xs (l4 + 2).toNat), zR 137]) (st := []) dL_law_765 kL_129 rfl rfl (Nat.le_of_ble_eq_true rfl) hS (show 1000 - 1 + 1 ≤ 1000 by omega) g1 g2 (fun v n' h' hP _ => by obtain ⟨x, e, rfl, hR⟩ := hP; cases e; exact kk x h' hR) (fun E n' h' _ z => (rI_nt _ _ _ z).elim)
theorem bL_law_768 {L b1 b2 : Nat} {xs : Nat → Int} {Q : RS → Nat → AH → Prop} {h : AH} (hL : L < 4000 := by omega) {l4 s0 : Int} {x5 x6 : AV} {R : Int → AH → Prop}  (r1 : 0 ≤ l4 + 1 ∧ l4 + 1 < (L : Int) := by omega) (r2 : 0 ≤ l4 + 2 ∧ l4 + 2 < (L : Int) := by omega) (hS : Sp mX12_lines true (1000 - 1) 0 0 [zR 98, zI (xs (l4 + 1).toNat), zI (xs (l4 + 2).toNat)] 137 h (rI R)) (hf : 1 ≤ 1000 := by omega) (kk : ∀ (x : Int) (h' : AH), R x h' → Wp mL_law (kL L xs) Q (b1, b2) 786 [zR (-100), zR 1, zR 98, zR 137, zI l4, zI s0, none] [zI x] 137 h') : Wp mL_law (kL L xs) Q (b1, b2) 768 [zR (-100), zR 1, zR 98, zR 137, zI l4, x5, x6] [zI s0] 137 h := by
  refine s_fgt (fgt_c (fgt_c (fgt_c (fgt_c (fgt_c (fgt_n _ (fgt_n _ fgt_0))))))) ?_
  refine s_istore dL_law_768 rfl (by decide) ?_
  refine s_aload_n (x := 98) dL_law_770 rfl ?_
  refine s_aload_n (x := (-100)) dL_law_771 rfl ?_
  refine s_iload (x := l4) dL_law_772 rfl ?_
  refine s_iconst dL_law_774 ?_
  refine s_iadd dL_law_775 ?_
  refine s_sld (i := l4 + 1) rfl dL_law_776 r1.1 r1.2 hL ?_
  refine s_aload_n (x := (-100)) dL_law_777 rfl ?_
  refine s_iload (x := l4) dL_law_778 rfl ?_
  refine s_iconst dL_law_780 ?_
  refine s_iadd dL_law_781 ?_
  refine s_sld (i := l4 + 2) rfl dL_law_782 r2.1 r2.2 hL ?_
  exact s_callV (as := [zI (xs (l4 + 1).toNat), zI (xs (l4 + 2).toNat)]) (st := []) (o := 98) dL_law_783 kL_131 rfl ⟨12, 87, TX12, e98, rfl, by decide⟩ rfl rfl (Nat.le_of_ble_eq_true rfl) hS (show 1000 - 1 + 1 ≤ 1000 by omega) (Nat.zero_le _) (Nat.zero_le _) (fun v n' h' hP _ => by obtain ⟨x, e, rfl, hR⟩ := hP; cases e; exact kk x h' hR) (fun E n' h' _ z => (rI_nt _ _ _ z).elim)
theorem bL_law_786 {L b1 b2 : Nat} {xs : Nat → Int} {Q : RS → Nat → AH → Prop} {h : AH} (hL : L < 4000 := by omega) {l4 l5 s0 : Int} {x6 : AV} {R : Int → AH → Prop}   (hS : Sp mX12_thrown true (1000 - 1) 0 0 [zR 98] 137 h (rI R)) (hf : 1 ≤ 1000 := by omega) (kk : ∀ (x : Int) (h' : AH), R x h' → Wp mL_law (kL L xs) Q (b1, b2) 792 [zR (-100), zR 1, zR 98, zR 137, zI l4, zI l5, zI s0] [zI x] 137 h') : Wp mL_law (kL L xs) Q (b1, b2) 786 [zR (-100), zR 1, zR 98, zR 137, zI l4, zI l5, x6] [zI s0] 137 h := by
  refine s_fgt (fgt_c (fgt_c (fgt_c (fgt_c (fgt_c (fgt_c (fgt_n _ fgt_0))))))) ?_
  refine s_istore dL_law_786 rfl (by decide) ?_
  refine s_aload_n (x := 98) dL_law_788 rfl ?_
  exact s_callV (as := []) (st := []) (o := 98) dL_law_789 kL_96 rfl ⟨12, 87, TX12, e98, rfl, by decide⟩ rfl rfl (Nat.le_of_ble_eq_true rfl) hS (show 1000 - 1 + 1 ≤ 1000 by omega) (Nat.zero_le _) (Nat.zero_le _) (fun v n' h' hP _ => by obtain ⟨x, e, rfl, hR⟩ := hP; cases e; exact kk x h' hR) (fun E n' h' _ z => (rI_nt _ _ _ z).elim)
theorem bL_law_792 {L b1 b2 : Nat} {xs : Nat → Int} {Q : RS → Nat → AH → Prop} {h : AH} (hL : L < 4000 := by omega) {l4 l5 l6 s0 : Int}  (r1 : -2147483648 ≤ s0 ∧ s0 < 2147483648 := by omega) (r2 : -2147483648 ≤ l5 ∧ l5 < 2147483648 := by omega) (kt : s0 = l5 → Wp mL_law (kL L xs) Q (b1, b2) 799 [zR (-100), zR 1, zR 98, zR 137, zI l4, zI l5, zI l6] [] 137 h) (kf : ¬ s0 = l5 → Wp mL_law (kL L xs) Q (b1, b2) 797 [zR (-100), zR 1, zR 98, zR 137, zI l4, zI l5, zI l6] [] 137 h) : Wp mL_law (kL L xs) Q (b1, b2) 792 [zR (-100), zR 1, zR 98, zR 137, zI l4, zI l5, zI l6] [zI s0] 137 h := by
  refine s_iload (x := l5) dL_law_792 rfl ?_
  exact s_icmp_eq (tgt := 799) dL_law_794 (by decide) r1 r2 kt kf
theorem bL_law_797 {L b1 b2 : Nat} {xs : Nat → Int} {Q : RS → Nat → AH → Prop} {h : AH} (hL : L < 4000 := by omega) {x0 x1 x2 x3 x4 x5 x6 : AV}   (hq : Q (.inl (some (zI 0))) 137 h) : Wp mL_law (kL L xs) Q (b1, b2) 797 [x0, x1, x2, x3, x4, x5, x6] [] 137 h := by
  refine s_fgt (fgt_n _ (fgt_n _ (fgt_n _ (fgt_n _ (fgt_n _ (fgt_n _ (fgt_n _ fgt_0))))))) ?_
  refine s_iconst dL_law_797 ?_
  exact s_ireturn dL_law_798 ⟨.boolean, rfl, by decide⟩ hq (fun z => by cases z)
theorem bL_law_799 {L b1 b2 : Nat} {xs : Nat → Int} {Q : RS → Nat → AH → Prop} {h : AH} (hL : L < 4000 := by omega) {l4 l5 l6 : Int}  (r1 : -2147483648 ≤ l5 ∧ l5 < 2147483648 := by omega) (kt : ¬ l5 = 0 → Wp mL_law (kL L xs) Q (b1, b2) 816 [zR (-100), zR 1, zR 98, zR 137, zI l4, zI l5, zI l6] [] 137 h) (kf : l5 = 0 → Wp mL_law (kL L xs) Q (b1, b2) 804 [zR (-100), zR 1, zR 98, zR 137, zI l4, zI l5, zI l6] [] 137 h) : Wp mL_law (kL L xs) Q (b1, b2) 799 [zR (-100), zR 1, zR 98, zR 137, zI l4, zI l5, zI l6] [] 137 h := by
  refine s_iload (x := l5) dL_law_799 rfl ?_
  exact s_if_ne (tgt := 816) dL_law_801 (by decide) r1 kt kf
theorem bL_law_804 {L b1 b2 : Nat} {xs : Nat → Int} {Q : RS → Nat → AH → Prop} {h : AH} (hL : L < 4000 := by omega) {l4 l6 : Int} {x5 : AV}  (r1 : -2147483648 ≤ (lg_cmp (Int64.ofInt (h 137 0)) (Int64.ofInt (i2l l6))).toInt ∧ (lg_cmp (Int64.ofInt (h 137 0)) (Int64.ofInt (i2l l6))).toInt < 2147483648 := by omega) (kt : (lg_cmp (Int64.ofInt (h 137 0)) (Int64.ofInt (i2l l6))).toInt = 0 → Wp mL_law (kL L xs) Q (b1, b2) 816 [zR (-100), zR 1, zR 98, zR 137, zI l4, none, zI l6] [] 137 h) (kf : ¬ (lg_cmp (Int64.ofInt (h 137 0)) (Int64.ofInt (i2l l6))).toInt = 0 → Wp mL_law (kL L xs) Q (b1, b2) 814 [zR (-100), zR 1, zR 98, zR 137, zI l4, none, zI l6] [] 137 h) : Wp mL_law (kL L xs) Q (b1, b2) 804 [zR (-100), zR 1, zR 98, zR 137, zI l4, x5, zI l6] [] 137 h := by
  refine s_fgt (fgt_c (fgt_c (fgt_c (fgt_c (fgt_c (fgt_n _ (fgt_c fgt_0))))))) ?_
  refine s_aload_n (x := 137) dL_law_804 rfl ?_
  refine s_iconst dL_law_805 ?_
  refine s_lald (c := 137) (i := 0) dL_law_806 e137 (by decide) (by decide) ?_
  refine s_iload (x := l6) dL_law_807 rfl ?_
  refine s_i2l dL_law_809 ?_
  refine s_lcmp dL_law_810 ?_
  exact s_if_eq (tgt := 816) dL_law_811 (by decide) r1 kt kf
theorem bL_law_814 {L b1 b2 : Nat} {xs : Nat → Int} {Q : RS → Nat → AH → Prop} {h : AH} (hL : L < 4000 := by omega) {x0 x1 x2 x3 x4 x5 x6 : AV}   (hq : Q (.inl (some (zI 0))) 137 h) : Wp mL_law (kL L xs) Q (b1, b2) 814 [x0, x1, x2, x3, x4, x5, x6] [] 137 h := by
  refine s_fgt (fgt_n _ (fgt_n _ (fgt_n _ (fgt_n _ (fgt_n _ (fgt_n _ (fgt_n _ fgt_0))))))) ?_
  refine s_iconst dL_law_814 ?_
  exact s_ireturn dL_law_815 ⟨.boolean, rfl, by decide⟩ hq (fun z => by cases z)
theorem bL_law_816 {L b1 b2 : Nat} {xs : Nat → Int} {Q : RS → Nat → AH → Prop} {h : AH} (hL : L < 4000 := by omega) {l4 : Int} {x5 x6 : AV}   (kk : Wp mL_law (kL L xs) Q (b1, b2) 1771 [zR (-100), zR 1, zR 98, zR 137, zI l4, none, none] [] 137 h) : Wp mL_law (kL L xs) Q (b1, b2) 816 [zR (-100), zR 1, zR 98, zR 137, zI l4, x5, x6] [] 137 h := by
  refine s_fgt (fgt_c (fgt_c (fgt_c (fgt_c (fgt_c (fgt_n _ (fgt_n _ fgt_0))))))) ?_
  exact s_goto (tgt := 1771) dL_law_816 (by decide) kk
theorem bL_law_819 {L b1 b2 : Nat} {xs : Nat → Int} {Q : RS → Nat → AH → Prop} {h : AH} (hL : L < 4000 := by omega) {l4 : Int} {x5 x6 : AV} {R : Int → AH → Prop}  (r1 : 0 ≤ l4 + 1 ∧ l4 + 1 < (L : Int) := by omega) (r2 : 0 ≤ l4 + 2 ∧ l4 + 2 < (L : Int) := by omega) (r3 : 0 ≤ l4 + 3 ∧ l4 + 3 < (L : Int) := by omega) (hS : Sp mL_line true (1000 - 1) 8 48 [zR 1, zI (xs (l4 + 1).toNat), zI (xs (l4 + 2).toNat), zI (xs (l4 + 3).toNat), zR 137] 137 h (rI R)) (hf : 1 ≤ 1000 := by omega) (g1 : 8 ≤ b1 := by omega) (g2 : 48 ≤ b2 := by omega) (kk : ∀ (x : Int) (h' : AH), R x h' → Wp mL_law (kL L xs) Q (b1 - 8, b2 - 48) 842 [zR (-100), zR 1, zR 98, zR 137, zI l4, none, none] [zI x] 137 h') : Wp mL_law (kL L xs) Q (b1, b2) 819 [zR (-100), zR 1, zR 98, zR 137, zI l4, x5, x6] [] 137 h := by
  refine s_fgt (fgt_c (fgt_c (fgt_c (fgt_c (fgt_c (fgt_n _ (fgt_n _ fgt_0))))))) ?_
  refine s_aload_n (x := 1) dL_law_819 rfl ?_
  refine s_aload_n (x := (-100)) dL_law_820 rfl ?_
  refine s_iload (x := l4) dL_law_821 rfl ?_
  refine s_iconst dL_law_823 ?_
  refine s_iadd dL_law_824 ?_
  refine s_sld (i := l4 + 1) rfl dL_law_825 r1.1 r1.2 hL ?_
  refine s_aload_n (x := (-100)) dL_law_826 rfl ?_
  refine s_iload (x := l4) dL_law_827 rfl ?_
  refine s_iconst dL_law_829 ?_
  refine s_iadd dL_law_830 ?_
  refine s_sld (i := l4 + 2) rfl dL_law_831 r2.1 r2.2 hL ?_
  refine s_aload_n (x := (-100)) dL_law_832 rfl ?_
  refine s_iload (x := l4) dL_law_833 rfl ?_
  refine s_iconst dL_law_835 ?_
  refine s_iadd dL_law_836 ?_
  refine s_sld (i := l4 + 3) rfl dL_law_837 r3.1 r3.2 hL ?_
  refine s_aload_n (x := 137) dL_law_838 rfl ?_
  exact s_callS (as := [zR 1, zI (xs (l4 + 1).toNat), zI (xs (l4 + 2).toNat), zI (xs (l4 + 3).toNat), zR 137]) (st := []) dL_law_839 kL_132 rfl rfl (Nat.le_of_ble_eq_true rfl) hS (show 1000 - 1 + 1 ≤ 1000 by omega) g1 g2 (fun v n' h' hP _ => by obtain ⟨x, e, rfl, hR⟩ := hP; cases e; exact kk x h' hR) (fun E n' h' _ z => (rI_nt _ _ _ z).elim)
theorem bL_law_842 {L b1 b2 : Nat} {xs : Nat → Int} {Q : RS → Nat → AH → Prop} {h : AH} (hL : L < 4000 := by omega) {l4 s0 : Int} {x5 x6 : AV} {R : Int → AH → Prop}  (r1 : 0 ≤ l4 + 1 ∧ l4 + 1 < (L : Int) := by omega) (r2 : 0 ≤ l4 + 2 ∧ l4 + 2 < (L : Int) := by omega) (r3 : 0 ≤ l4 + 3 ∧ l4 + 3 < (L : Int) := by omega) (hS : Sp mX12_line_ true (1000 - 1) 0 0 [zR 98, zI (xs (l4 + 1).toNat), zI (xs (l4 + 2).toNat), zI (xs (l4 + 3).toNat)] 137 h (rI R)) (hf : 1 ≤ 1000 := by omega) (kk : ∀ (x : Int) (h' : AH), R x h' → Wp mL_law (kL L xs) Q (b1, b2) 866 [zR (-100), zR 1, zR 98, zR 137, zI l4, zI s0, none] [zI x] 137 h') : Wp mL_law (kL L xs) Q (b1, b2) 842 [zR (-100), zR 1, zR 98, zR 137, zI l4, x5, x6] [zI s0] 137 h := by
  refine s_fgt (fgt_c (fgt_c (fgt_c (fgt_c (fgt_c (fgt_n _ (fgt_n _ fgt_0))))))) ?_
  refine s_istore dL_law_842 rfl (by decide) ?_
  refine s_aload_n (x := 98) dL_law_844 rfl ?_
  refine s_aload_n (x := (-100)) dL_law_845 rfl ?_
  refine s_iload (x := l4) dL_law_846 rfl ?_
  refine s_iconst dL_law_848 ?_
  refine s_iadd dL_law_849 ?_
  refine s_sld (i := l4 + 1) rfl dL_law_850 r1.1 r1.2 hL ?_
  refine s_aload_n (x := (-100)) dL_law_851 rfl ?_
  refine s_iload (x := l4) dL_law_852 rfl ?_
  refine s_iconst dL_law_854 ?_
  refine s_iadd dL_law_855 ?_
  refine s_sld (i := l4 + 2) rfl dL_law_856 r2.1 r2.2 hL ?_
  refine s_aload_n (x := (-100)) dL_law_857 rfl ?_
  refine s_iload (x := l4) dL_law_858 rfl ?_
  refine s_iconst dL_law_860 ?_
  refine s_iadd dL_law_861 ?_
  refine s_sld (i := l4 + 3) rfl dL_law_862 r3.1 r3.2 hL ?_
  exact s_callV (as := [zI (xs (l4 + 1).toNat), zI (xs (l4 + 2).toNat), zI (xs (l4 + 3).toNat)]) (st := []) (o := 98) dL_law_863 kL_134 rfl ⟨12, 87, TX12, e98, rfl, by decide⟩ rfl rfl (Nat.le_of_ble_eq_true rfl) hS (show 1000 - 1 + 1 ≤ 1000 by omega) (Nat.zero_le _) (Nat.zero_le _) (fun v n' h' hP _ => by obtain ⟨x, e, rfl, hR⟩ := hP; cases e; exact kk x h' hR) (fun E n' h' _ z => (rI_nt _ _ _ z).elim)
theorem bL_law_866 {L b1 b2 : Nat} {xs : Nat → Int} {Q : RS → Nat → AH → Prop} {h : AH} (hL : L < 4000 := by omega) {l4 l5 s0 : Int} {x6 : AV} {R : Int → AH → Prop}   (hS : Sp mX12_thrown true (1000 - 1) 0 0 [zR 98] 137 h (rI R)) (hf : 1 ≤ 1000 := by omega) (kk : ∀ (x : Int) (h' : AH), R x h' → Wp mL_law (kL L xs) Q (b1, b2) 872 [zR (-100), zR 1, zR 98, zR 137, zI l4, zI l5, zI s0] [zI x] 137 h') : Wp mL_law (kL L xs) Q (b1, b2) 866 [zR (-100), zR 1, zR 98, zR 137, zI l4, zI l5, x6] [zI s0] 137 h := by
  refine s_fgt (fgt_c (fgt_c (fgt_c (fgt_c (fgt_c (fgt_c (fgt_n _ fgt_0))))))) ?_
  refine s_istore dL_law_866 rfl (by decide) ?_
  refine s_aload_n (x := 98) dL_law_868 rfl ?_
  exact s_callV (as := []) (st := []) (o := 98) dL_law_869 kL_96 rfl ⟨12, 87, TX12, e98, rfl, by decide⟩ rfl rfl (Nat.le_of_ble_eq_true rfl) hS (show 1000 - 1 + 1 ≤ 1000 by omega) (Nat.zero_le _) (Nat.zero_le _) (fun v n' h' hP _ => by obtain ⟨x, e, rfl, hR⟩ := hP; cases e; exact kk x h' hR) (fun E n' h' _ z => (rI_nt _ _ _ z).elim)
theorem bL_law_872 {L b1 b2 : Nat} {xs : Nat → Int} {Q : RS → Nat → AH → Prop} {h : AH} (hL : L < 4000 := by omega) {l4 l5 l6 s0 : Int}  (r1 : -2147483648 ≤ s0 ∧ s0 < 2147483648 := by omega) (r2 : -2147483648 ≤ l5 ∧ l5 < 2147483648 := by omega) (kt : s0 = l5 → Wp mL_law (kL L xs) Q (b1, b2) 879 [zR (-100), zR 1, zR 98, zR 137, zI l4, zI l5, zI l6] [] 137 h) (kf : ¬ s0 = l5 → Wp mL_law (kL L xs) Q (b1, b2) 877 [zR (-100), zR 1, zR 98, zR 137, zI l4, zI l5, zI l6] [] 137 h) : Wp mL_law (kL L xs) Q (b1, b2) 872 [zR (-100), zR 1, zR 98, zR 137, zI l4, zI l5, zI l6] [zI s0] 137 h := by
  refine s_iload (x := l5) dL_law_872 rfl ?_
  exact s_icmp_eq (tgt := 879) dL_law_874 (by decide) r1 r2 kt kf
theorem bL_law_877 {L b1 b2 : Nat} {xs : Nat → Int} {Q : RS → Nat → AH → Prop} {h : AH} (hL : L < 4000 := by omega) {x0 x1 x2 x3 x4 x5 x6 : AV}   (hq : Q (.inl (some (zI 0))) 137 h) : Wp mL_law (kL L xs) Q (b1, b2) 877 [x0, x1, x2, x3, x4, x5, x6] [] 137 h := by
  refine s_fgt (fgt_n _ (fgt_n _ (fgt_n _ (fgt_n _ (fgt_n _ (fgt_n _ (fgt_n _ fgt_0))))))) ?_
  refine s_iconst dL_law_877 ?_
  exact s_ireturn dL_law_878 ⟨.boolean, rfl, by decide⟩ hq (fun z => by cases z)
theorem bL_law_879 {L b1 b2 : Nat} {xs : Nat → Int} {Q : RS → Nat → AH → Prop} {h : AH} (hL : L < 4000 := by omega) {l4 l5 l6 : Int}  (r1 : -2147483648 ≤ l5 ∧ l5 < 2147483648 := by omega) (kt : ¬ l5 = 0 → Wp mL_law (kL L xs) Q (b1, b2) 896 [zR (-100), zR 1, zR 98, zR 137, zI l4, zI l5, zI l6] [] 137 h) (kf : l5 = 0 → Wp mL_law (kL L xs) Q (b1, b2) 884 [zR (-100), zR 1, zR 98, zR 137, zI l4, zI l5, zI l6] [] 137 h) : Wp mL_law (kL L xs) Q (b1, b2) 879 [zR (-100), zR 1, zR 98, zR 137, zI l4, zI l5, zI l6] [] 137 h := by
  refine s_iload (x := l5) dL_law_879 rfl ?_
  exact s_if_ne (tgt := 896) dL_law_881 (by decide) r1 kt kf
theorem bL_law_884 {L b1 b2 : Nat} {xs : Nat → Int} {Q : RS → Nat → AH → Prop} {h : AH} (hL : L < 4000 := by omega) {l4 l6 : Int} {x5 : AV}  (r1 : -2147483648 ≤ (lg_cmp (Int64.ofInt (h 137 0)) (Int64.ofInt (i2l l6))).toInt ∧ (lg_cmp (Int64.ofInt (h 137 0)) (Int64.ofInt (i2l l6))).toInt < 2147483648 := by omega) (kt : (lg_cmp (Int64.ofInt (h 137 0)) (Int64.ofInt (i2l l6))).toInt = 0 → Wp mL_law (kL L xs) Q (b1, b2) 896 [zR (-100), zR 1, zR 98, zR 137, zI l4, none, zI l6] [] 137 h) (kf : ¬ (lg_cmp (Int64.ofInt (h 137 0)) (Int64.ofInt (i2l l6))).toInt = 0 → Wp mL_law (kL L xs) Q (b1, b2) 894 [zR (-100), zR 1, zR 98, zR 137, zI l4, none, zI l6] [] 137 h) : Wp mL_law (kL L xs) Q (b1, b2) 884 [zR (-100), zR 1, zR 98, zR 137, zI l4, x5, zI l6] [] 137 h := by
  refine s_fgt (fgt_c (fgt_c (fgt_c (fgt_c (fgt_c (fgt_n _ (fgt_c fgt_0))))))) ?_
  refine s_aload_n (x := 137) dL_law_884 rfl ?_
  refine s_iconst dL_law_885 ?_
  refine s_lald (c := 137) (i := 0) dL_law_886 e137 (by decide) (by decide) ?_
  refine s_iload (x := l6) dL_law_887 rfl ?_
  refine s_i2l dL_law_889 ?_
  refine s_lcmp dL_law_890 ?_
  exact s_if_eq (tgt := 896) dL_law_891 (by decide) r1 kt kf
theorem bL_law_894 {L b1 b2 : Nat} {xs : Nat → Int} {Q : RS → Nat → AH → Prop} {h : AH} (hL : L < 4000 := by omega) {x0 x1 x2 x3 x4 x5 x6 : AV}   (hq : Q (.inl (some (zI 0))) 137 h) : Wp mL_law (kL L xs) Q (b1, b2) 894 [x0, x1, x2, x3, x4, x5, x6] [] 137 h := by
  refine s_fgt (fgt_n _ (fgt_n _ (fgt_n _ (fgt_n _ (fgt_n _ (fgt_n _ (fgt_n _ fgt_0))))))) ?_
  refine s_iconst dL_law_894 ?_
  exact s_ireturn dL_law_895 ⟨.boolean, rfl, by decide⟩ hq (fun z => by cases z)
theorem bL_law_896 {L b1 b2 : Nat} {xs : Nat → Int} {Q : RS → Nat → AH → Prop} {h : AH} (hL : L < 4000 := by omega) {l4 : Int} {x5 x6 : AV}   (kk : Wp mL_law (kL L xs) Q (b1, b2) 1771 [zR (-100), zR 1, zR 98, zR 137, zI l4, none, none] [] 137 h) : Wp mL_law (kL L xs) Q (b1, b2) 896 [zR (-100), zR 1, zR 98, zR 137, zI l4, x5, x6] [] 137 h := by
  refine s_fgt (fgt_c (fgt_c (fgt_c (fgt_c (fgt_c (fgt_n _ (fgt_n _ fgt_0))))))) ?_
  exact s_goto (tgt := 1771) dL_law_896 (by decide) kk
theorem bL_law_899 {L b1 b2 : Nat} {xs : Nat → Int} {Q : RS → Nat → AH → Prop} {h : AH} (hL : L < 4000 := by omega) {l4 : Int} {x5 x6 : AV} {R : Int → AH → Prop}  (r1 : 0 ≤ l4 + 1 ∧ l4 + 1 < (L : Int) := by omega) (r2 : 0 ≤ l4 + 2 ∧ l4 + 2 < (L : Int) := by omega) (hS : Sp mL_still true (1000 - 1) 8 48 [zR 1, zI (xs (l4 + 1).toNat), zI (xs (l4 + 2).toNat), zR 137] 137 h (rI R)) (hf : 1 ≤ 1000 := by omega) (g1 : 8 ≤ b1 := by omega) (g2 : 48 ≤ b2 := by omega) (kk : ∀ (x : Int) (h' : AH), R x h' → Wp mL_law (kL L xs) Q (b1 - 8, b2 - 48) 916 [zR (-100), zR 1, zR 98, zR 137, zI l4, none, none] [zI x] 137 h') : Wp mL_law (kL L xs) Q (b1, b2) 899 [zR (-100), zR 1, zR 98, zR 137, zI l4, x5, x6] [] 137 h := by
  refine s_fgt (fgt_c (fgt_c (fgt_c (fgt_c (fgt_c (fgt_n _ (fgt_n _ fgt_0))))))) ?_
  refine s_aload_n (x := 1) dL_law_899 rfl ?_
  refine s_aload_n (x := (-100)) dL_law_900 rfl ?_
  refine s_iload (x := l4) dL_law_901 rfl ?_
  refine s_iconst dL_law_903 ?_
  refine s_iadd dL_law_904 ?_
  refine s_sld (i := l4 + 1) rfl dL_law_905 r1.1 r1.2 hL ?_
  refine s_aload_n (x := (-100)) dL_law_906 rfl ?_
  refine s_iload (x := l4) dL_law_907 rfl ?_
  refine s_iconst dL_law_909 ?_
  refine s_iadd dL_law_910 ?_
  refine s_sld (i := l4 + 2) rfl dL_law_911 r2.1 r2.2 hL ?_
  refine s_aload_n (x := 137) dL_law_912 rfl ?_
  exact s_callS (as := [zR 1, zI (xs (l4 + 1).toNat), zI (xs (l4 + 2).toNat), zR 137]) (st := []) dL_law_913 kL_135 rfl rfl (Nat.le_of_ble_eq_true rfl) hS (show 1000 - 1 + 1 ≤ 1000 by omega) g1 g2 (fun v n' h' hP _ => by obtain ⟨x, e, rfl, hR⟩ := hP; cases e; exact kk x h' hR) (fun E n' h' _ z => (rI_nt _ _ _ z).elim)
theorem bL_law_916 {L b1 b2 : Nat} {xs : Nat → Int} {Q : RS → Nat → AH → Prop} {h : AH} (hL : L < 4000 := by omega) {l4 s0 : Int} {x5 x6 : AV} {R : Int → AH → Prop}  (r1 : 0 ≤ l4 + 1 ∧ l4 + 1 < (L : Int) := by omega) (r2 : 0 ≤ l4 + 2 ∧ l4 + 2 < (L : Int) := by omega) (hS : Sp mX12_still true (1000 - 1) 0 0 [zR 98, zI (xs (l4 + 1).toNat), zI (xs (l4 + 2).toNat)] 137 h (rI R)) (hf : 1 ≤ 1000 := by omega) (kk : ∀ (x : Int) (h' : AH), R x h' → Wp mL_law (kL L xs) Q (b1, b2) 934 [zR (-100), zR 1, zR 98, zR 137, zI l4, zI s0, none] [zI x] 137 h') : Wp mL_law (kL L xs) Q (b1, b2) 916 [zR (-100), zR 1, zR 98, zR 137, zI l4, x5, x6] [zI s0] 137 h := by
  refine s_fgt (fgt_c (fgt_c (fgt_c (fgt_c (fgt_c (fgt_n _ (fgt_n _ fgt_0))))))) ?_
  refine s_istore dL_law_916 rfl (by decide) ?_
  refine s_aload_n (x := 98) dL_law_918 rfl ?_
  refine s_aload_n (x := (-100)) dL_law_919 rfl ?_
  refine s_iload (x := l4) dL_law_920 rfl ?_
  refine s_iconst dL_law_922 ?_
  refine s_iadd dL_law_923 ?_
  refine s_sld (i := l4 + 1) rfl dL_law_924 r1.1 r1.2 hL ?_
  refine s_aload_n (x := (-100)) dL_law_925 rfl ?_
  refine s_iload (x := l4) dL_law_926 rfl ?_
  refine s_iconst dL_law_928 ?_
  refine s_iadd dL_law_929 ?_
  refine s_sld (i := l4 + 2) rfl dL_law_930 r2.1 r2.2 hL ?_
  exact s_callV (as := [zI (xs (l4 + 1).toNat), zI (xs (l4 + 2).toNat)]) (st := []) (o := 98) dL_law_931 kL_137 rfl ⟨12, 87, TX12, e98, rfl, by decide⟩ rfl rfl (Nat.le_of_ble_eq_true rfl) hS (show 1000 - 1 + 1 ≤ 1000 by omega) (Nat.zero_le _) (Nat.zero_le _) (fun v n' h' hP _ => by obtain ⟨x, e, rfl, hR⟩ := hP; cases e; exact kk x h' hR) (fun E n' h' _ z => (rI_nt _ _ _ z).elim)
theorem bL_law_934 {L b1 b2 : Nat} {xs : Nat → Int} {Q : RS → Nat → AH → Prop} {h : AH} (hL : L < 4000 := by omega) {l4 l5 s0 : Int} {x6 : AV} {R : Int → AH → Prop}   (hS : Sp mX12_thrown true (1000 - 1) 0 0 [zR 98] 137 h (rI R)) (hf : 1 ≤ 1000 := by omega) (kk : ∀ (x : Int) (h' : AH), R x h' → Wp mL_law (kL L xs) Q (b1, b2) 940 [zR (-100), zR 1, zR 98, zR 137, zI l4, zI l5, zI s0] [zI x] 137 h') : Wp mL_law (kL L xs) Q (b1, b2) 934 [zR (-100), zR 1, zR 98, zR 137, zI l4, zI l5, x6] [zI s0] 137 h := by
  refine s_fgt (fgt_c (fgt_c (fgt_c (fgt_c (fgt_c (fgt_c (fgt_n _ fgt_0))))))) ?_
  refine s_istore dL_law_934 rfl (by decide) ?_
  refine s_aload_n (x := 98) dL_law_936 rfl ?_
  exact s_callV (as := []) (st := []) (o := 98) dL_law_937 kL_96 rfl ⟨12, 87, TX12, e98, rfl, by decide⟩ rfl rfl (Nat.le_of_ble_eq_true rfl) hS (show 1000 - 1 + 1 ≤ 1000 by omega) (Nat.zero_le _) (Nat.zero_le _) (fun v n' h' hP _ => by obtain ⟨x, e, rfl, hR⟩ := hP; cases e; exact kk x h' hR) (fun E n' h' _ z => (rI_nt _ _ _ z).elim)
theorem bL_law_940 {L b1 b2 : Nat} {xs : Nat → Int} {Q : RS → Nat → AH → Prop} {h : AH} (hL : L < 4000 := by omega) {l4 l5 l6 s0 : Int}  (r1 : -2147483648 ≤ s0 ∧ s0 < 2147483648 := by omega) (r2 : -2147483648 ≤ l5 ∧ l5 < 2147483648 := by omega) (kt : s0 = l5 → Wp mL_law (kL L xs) Q (b1, b2) 947 [zR (-100), zR 1, zR 98, zR 137, zI l4, zI l5, zI l6] [] 137 h) (kf : ¬ s0 = l5 → Wp mL_law (kL L xs) Q (b1, b2) 945 [zR (-100), zR 1, zR 98, zR 137, zI l4, zI l5, zI l6] [] 137 h) : Wp mL_law (kL L xs) Q (b1, b2) 940 [zR (-100), zR 1, zR 98, zR 137, zI l4, zI l5, zI l6] [zI s0] 137 h := by
  refine s_iload (x := l5) dL_law_940 rfl ?_
  exact s_icmp_eq (tgt := 947) dL_law_942 (by decide) r1 r2 kt kf
theorem bL_law_945 {L b1 b2 : Nat} {xs : Nat → Int} {Q : RS → Nat → AH → Prop} {h : AH} (hL : L < 4000 := by omega) {x0 x1 x2 x3 x4 x5 x6 : AV}   (hq : Q (.inl (some (zI 0))) 137 h) : Wp mL_law (kL L xs) Q (b1, b2) 945 [x0, x1, x2, x3, x4, x5, x6] [] 137 h := by
  refine s_fgt (fgt_n _ (fgt_n _ (fgt_n _ (fgt_n _ (fgt_n _ (fgt_n _ (fgt_n _ fgt_0))))))) ?_
  refine s_iconst dL_law_945 ?_
  exact s_ireturn dL_law_946 ⟨.boolean, rfl, by decide⟩ hq (fun z => by cases z)
theorem bL_law_947 {L b1 b2 : Nat} {xs : Nat → Int} {Q : RS → Nat → AH → Prop} {h : AH} (hL : L < 4000 := by omega) {l4 l5 l6 : Int}  (r1 : -2147483648 ≤ l5 ∧ l5 < 2147483648 := by omega) (kt : ¬ l5 = 0 → Wp mL_law (kL L xs) Q (b1, b2) 964 [zR (-100), zR 1, zR 98, zR 137, zI l4, zI l5, zI l6] [] 137 h) (kf : l5 = 0 → Wp mL_law (kL L xs) Q (b1, b2) 952 [zR (-100), zR 1, zR 98, zR 137, zI l4, zI l5, zI l6] [] 137 h) : Wp mL_law (kL L xs) Q (b1, b2) 947 [zR (-100), zR 1, zR 98, zR 137, zI l4, zI l5, zI l6] [] 137 h := by
  refine s_iload (x := l5) dL_law_947 rfl ?_
  exact s_if_ne (tgt := 964) dL_law_949 (by decide) r1 kt kf
theorem bL_law_952 {L b1 b2 : Nat} {xs : Nat → Int} {Q : RS → Nat → AH → Prop} {h : AH} (hL : L < 4000 := by omega) {l4 l6 : Int} {x5 : AV}  (r1 : -2147483648 ≤ (lg_cmp (Int64.ofInt (h 137 0)) (Int64.ofInt (i2l l6))).toInt ∧ (lg_cmp (Int64.ofInt (h 137 0)) (Int64.ofInt (i2l l6))).toInt < 2147483648 := by omega) (kt : (lg_cmp (Int64.ofInt (h 137 0)) (Int64.ofInt (i2l l6))).toInt = 0 → Wp mL_law (kL L xs) Q (b1, b2) 964 [zR (-100), zR 1, zR 98, zR 137, zI l4, none, zI l6] [] 137 h) (kf : ¬ (lg_cmp (Int64.ofInt (h 137 0)) (Int64.ofInt (i2l l6))).toInt = 0 → Wp mL_law (kL L xs) Q (b1, b2) 962 [zR (-100), zR 1, zR 98, zR 137, zI l4, none, zI l6] [] 137 h) : Wp mL_law (kL L xs) Q (b1, b2) 952 [zR (-100), zR 1, zR 98, zR 137, zI l4, x5, zI l6] [] 137 h := by
  refine s_fgt (fgt_c (fgt_c (fgt_c (fgt_c (fgt_c (fgt_n _ (fgt_c fgt_0))))))) ?_
  refine s_aload_n (x := 137) dL_law_952 rfl ?_
  refine s_iconst dL_law_953 ?_
  refine s_lald (c := 137) (i := 0) dL_law_954 e137 (by decide) (by decide) ?_
  refine s_iload (x := l6) dL_law_955 rfl ?_
  refine s_i2l dL_law_957 ?_
  refine s_lcmp dL_law_958 ?_
  exact s_if_eq (tgt := 964) dL_law_959 (by decide) r1 kt kf
theorem bL_law_962 {L b1 b2 : Nat} {xs : Nat → Int} {Q : RS → Nat → AH → Prop} {h : AH} (hL : L < 4000 := by omega) {x0 x1 x2 x3 x4 x5 x6 : AV}   (hq : Q (.inl (some (zI 0))) 137 h) : Wp mL_law (kL L xs) Q (b1, b2) 962 [x0, x1, x2, x3, x4, x5, x6] [] 137 h := by
  refine s_fgt (fgt_n _ (fgt_n _ (fgt_n _ (fgt_n _ (fgt_n _ (fgt_n _ (fgt_n _ fgt_0))))))) ?_
  refine s_iconst dL_law_962 ?_
  exact s_ireturn dL_law_963 ⟨.boolean, rfl, by decide⟩ hq (fun z => by cases z)
theorem bL_law_964 {L b1 b2 : Nat} {xs : Nat → Int} {Q : RS → Nat → AH → Prop} {h : AH} (hL : L < 4000 := by omega) {l4 : Int} {x5 x6 : AV}   (kk : Wp mL_law (kL L xs) Q (b1, b2) 1771 [zR (-100), zR 1, zR 98, zR 137, zI l4, none, none] [] 137 h) : Wp mL_law (kL L xs) Q (b1, b2) 964 [zR (-100), zR 1, zR 98, zR 137, zI l4, x5, x6] [] 137 h := by
  refine s_fgt (fgt_c (fgt_c (fgt_c (fgt_c (fgt_c (fgt_n _ (fgt_n _ fgt_0))))))) ?_
  exact s_goto (tgt := 1771) dL_law_964 (by decide) kk
theorem bL_law_967 {L b1 b2 : Nat} {xs : Nat → Int} {Q : RS → Nat → AH → Prop} {h : AH} (hL : L < 4000 := by omega) {l4 : Int} {x5 x6 : AV} {R : Int → AH → Prop}  (r1 : 0 ≤ l4 + 1 ∧ l4 + 1 < (L : Int) := by omega) (r2 : 0 ≤ l4 + 2 ∧ l4 + 2 < (L : Int) := by omega) (hS : Sp mL_without true (1000 - 1) 8 48 [zR 1, zI (xs (l4 + 1).toNat), zI (xs (l4 + 2).toNat), zR 137] 137 h (rI R)) (hf : 1 ≤ 1000 := by omega) (g1 : 8 ≤ b1 := by omega) (g2 : 48 ≤ b2 := by omega) (kk : ∀ (x : Int) (h' : AH), R x h' → Wp mL_law (kL L xs) Q (b1 - 8, b2 - 48) 984 [zR (-100), zR 1, zR 98, zR 137, zI l4, none, none] [zI x] 137 h') : Wp mL_law (kL L xs) Q (b1, b2) 967 [zR (-100), zR 1, zR 98, zR 137, zI l4, x5, x6] [] 137 h := by
  refine s_fgt (fgt_c (fgt_c (fgt_c (fgt_c (fgt_c (fgt_n _ (fgt_n _ fgt_0))))))) ?_
  refine s_aload_n (x := 1) dL_law_967 rfl ?_
  refine s_aload_n (x := (-100)) dL_law_968 rfl ?_
  refine s_iload (x := l4) dL_law_969 rfl ?_
  refine s_iconst dL_law_971 ?_
  refine s_iadd dL_law_972 ?_
  refine s_sld (i := l4 + 1) rfl dL_law_973 r1.1 r1.2 hL ?_
  refine s_aload_n (x := (-100)) dL_law_974 rfl ?_
  refine s_iload (x := l4) dL_law_975 rfl ?_
  refine s_iconst dL_law_977 ?_
  refine s_iadd dL_law_978 ?_
  refine s_sld (i := l4 + 2) rfl dL_law_979 r2.1 r2.2 hL ?_
  refine s_aload_n (x := 137) dL_law_980 rfl ?_
  exact s_callS (as := [zR 1, zI (xs (l4 + 1).toNat), zI (xs (l4 + 2).toNat), zR 137]) (st := []) dL_law_981 kL_138 rfl rfl (Nat.le_of_ble_eq_true rfl) hS (show 1000 - 1 + 1 ≤ 1000 by omega) g1 g2 (fun v n' h' hP _ => by obtain ⟨x, e, rfl, hR⟩ := hP; cases e; exact kk x h' hR) (fun E n' h' _ z => (rI_nt _ _ _ z).elim)
theorem bL_law_984 {L b1 b2 : Nat} {xs : Nat → Int} {Q : RS → Nat → AH → Prop} {h : AH} (hL : L < 4000 := by omega) {l4 s0 : Int} {x5 x6 : AV} {R : Int → AH → Prop}  (r1 : 0 ≤ l4 + 1 ∧ l4 + 1 < (L : Int) := by omega) (r2 : 0 ≤ l4 + 2 ∧ l4 + 2 < (L : Int) := by omega) (hS : Sp mX12_without true (1000 - 1) 0 0 [zR 98, zI (xs (l4 + 1).toNat), zI (xs (l4 + 2).toNat)] 137 h (rI R)) (hf : 1 ≤ 1000 := by omega) (kk : ∀ (x : Int) (h' : AH), R x h' → Wp mL_law (kL L xs) Q (b1, b2) 1002 [zR (-100), zR 1, zR 98, zR 137, zI l4, zI s0, none] [zI x] 137 h') : Wp mL_law (kL L xs) Q (b1, b2) 984 [zR (-100), zR 1, zR 98, zR 137, zI l4, x5, x6] [zI s0] 137 h := by
  refine s_fgt (fgt_c (fgt_c (fgt_c (fgt_c (fgt_c (fgt_n _ (fgt_n _ fgt_0))))))) ?_
  refine s_istore dL_law_984 rfl (by decide) ?_
  refine s_aload_n (x := 98) dL_law_986 rfl ?_
  refine s_aload_n (x := (-100)) dL_law_987 rfl ?_
  refine s_iload (x := l4) dL_law_988 rfl ?_
  refine s_iconst dL_law_990 ?_
  refine s_iadd dL_law_991 ?_
  refine s_sld (i := l4 + 1) rfl dL_law_992 r1.1 r1.2 hL ?_
  refine s_aload_n (x := (-100)) dL_law_993 rfl ?_
  refine s_iload (x := l4) dL_law_994 rfl ?_
  refine s_iconst dL_law_996 ?_
  refine s_iadd dL_law_997 ?_
  refine s_sld (i := l4 + 2) rfl dL_law_998 r2.1 r2.2 hL ?_
  exact s_callV (as := [zI (xs (l4 + 1).toNat), zI (xs (l4 + 2).toNat)]) (st := []) (o := 98) dL_law_999 kL_140 rfl ⟨12, 87, TX12, e98, rfl, by decide⟩ rfl rfl (Nat.le_of_ble_eq_true rfl) hS (show 1000 - 1 + 1 ≤ 1000 by omega) (Nat.zero_le _) (Nat.zero_le _) (fun v n' h' hP _ => by obtain ⟨x, e, rfl, hR⟩ := hP; cases e; exact kk x h' hR) (fun E n' h' _ z => (rI_nt _ _ _ z).elim)
theorem bL_law_1002 {L b1 b2 : Nat} {xs : Nat → Int} {Q : RS → Nat → AH → Prop} {h : AH} (hL : L < 4000 := by omega) {l4 l5 s0 : Int} {x6 : AV} {R : Int → AH → Prop}   (hS : Sp mX12_thrown true (1000 - 1) 0 0 [zR 98] 137 h (rI R)) (hf : 1 ≤ 1000 := by omega) (kk : ∀ (x : Int) (h' : AH), R x h' → Wp mL_law (kL L xs) Q (b1, b2) 1008 [zR (-100), zR 1, zR 98, zR 137, zI l4, zI l5, zI s0] [zI x] 137 h') : Wp mL_law (kL L xs) Q (b1, b2) 1002 [zR (-100), zR 1, zR 98, zR 137, zI l4, zI l5, x6] [zI s0] 137 h := by
  refine s_fgt (fgt_c (fgt_c (fgt_c (fgt_c (fgt_c (fgt_c (fgt_n _ fgt_0))))))) ?_
  refine s_istore dL_law_1002 rfl (by decide) ?_
  refine s_aload_n (x := 98) dL_law_1004 rfl ?_
  exact s_callV (as := []) (st := []) (o := 98) dL_law_1005 kL_96 rfl ⟨12, 87, TX12, e98, rfl, by decide⟩ rfl rfl (Nat.le_of_ble_eq_true rfl) hS (show 1000 - 1 + 1 ≤ 1000 by omega) (Nat.zero_le _) (Nat.zero_le _) (fun v n' h' hP _ => by obtain ⟨x, e, rfl, hR⟩ := hP; cases e; exact kk x h' hR) (fun E n' h' _ z => (rI_nt _ _ _ z).elim)
theorem bL_law_1008 {L b1 b2 : Nat} {xs : Nat → Int} {Q : RS → Nat → AH → Prop} {h : AH} (hL : L < 4000 := by omega) {l4 l5 l6 s0 : Int}  (r1 : -2147483648 ≤ s0 ∧ s0 < 2147483648 := by omega) (r2 : -2147483648 ≤ l5 ∧ l5 < 2147483648 := by omega) (kt : s0 = l5 → Wp mL_law (kL L xs) Q (b1, b2) 1015 [zR (-100), zR 1, zR 98, zR 137, zI l4, zI l5, zI l6] [] 137 h) (kf : ¬ s0 = l5 → Wp mL_law (kL L xs) Q (b1, b2) 1013 [zR (-100), zR 1, zR 98, zR 137, zI l4, zI l5, zI l6] [] 137 h) : Wp mL_law (kL L xs) Q (b1, b2) 1008 [zR (-100), zR 1, zR 98, zR 137, zI l4, zI l5, zI l6] [zI s0] 137 h := by
  refine s_iload (x := l5) dL_law_1008 rfl ?_
  exact s_icmp_eq (tgt := 1015) dL_law_1010 (by decide) r1 r2 kt kf
theorem bL_law_1013 {L b1 b2 : Nat} {xs : Nat → Int} {Q : RS → Nat → AH → Prop} {h : AH} (hL : L < 4000 := by omega) {x0 x1 x2 x3 x4 x5 x6 : AV}   (hq : Q (.inl (some (zI 0))) 137 h) : Wp mL_law (kL L xs) Q (b1, b2) 1013 [x0, x1, x2, x3, x4, x5, x6] [] 137 h := by
  refine s_fgt (fgt_n _ (fgt_n _ (fgt_n _ (fgt_n _ (fgt_n _ (fgt_n _ (fgt_n _ fgt_0))))))) ?_
  refine s_iconst dL_law_1013 ?_
  exact s_ireturn dL_law_1014 ⟨.boolean, rfl, by decide⟩ hq (fun z => by cases z)
