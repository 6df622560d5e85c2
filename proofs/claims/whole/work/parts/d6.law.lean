/-! ===== the law, from its entry on ===== -/
theorem we1 : ((Jvm.Cond.initialized "EchoGorge") : Cond) ∈ GW := tw1 (List.mem_of_getElem? (i := 1) rfl) rfl
theorem we14 : ((Jvm.Cond.initialized "EchoGorgeModel") : Cond) ∈ GW := tw1 (List.mem_of_getElem? (i := 14) rfl) rfl
theorem we27 : ((Jvm.Cond.classLink "EchoGorgeLaw" 8 "EchoGorge") : Cond) ∈ GW := tw1 (List.mem_of_getElem? (i := 27) rfl) rfl
theorem we28 : ((Jvm.Cond.instantiable "EchoGorge" 18) : Cond) ∈ GW := tw1 (List.mem_of_getElem? (i := 28) rfl) rfl
theorem we29 : ((Jvm.Cond.methodLink "EchoGorgeLaw" 82 ⟨"EchoGorge","<init>","()V"⟩) : Cond) ∈ GW := tw1 (List.mem_of_getElem? (i := 29) rfl) rfl
theorem we30 : ((Jvm.Cond.instanceMethod ⟨"EchoGorge","<init>","()V"⟩) : Cond) ∈ GW := tw1 (List.mem_of_getElem? (i := 30) rfl) rfl
theorem we31 : ((Jvm.Cond.code ⟨"EchoGorge","<init>","()V"⟩ prog_1_method_1_code 1 (Option.none : Option Jvm.ClassFile.FieldType)) : Cond) ∈ GW := tw1 (List.mem_of_getElem? (i := 31) rfl) rfl
theorem we1309 : ((Jvm.Cond.classLink "EchoGorgeLaw" 83 "EchoGorgeModel") : Cond) ∈ GW := tw6 (List.mem_of_getElem? (i := 109) rfl) rfl
theorem we1310 : ((Jvm.Cond.instantiable "EchoGorgeModel" 87) : Cond) ∈ GW := tw6 (List.mem_of_getElem? (i := 110) rfl) rfl
theorem we1311 : ((Jvm.Cond.methodLink "EchoGorgeLaw" 85 ⟨"EchoGorgeModel","<init>","()V"⟩) : Cond) ∈ GW := tw6 (List.mem_of_getElem? (i := 111) rfl) rfl
theorem we1312 : ((Jvm.Cond.instanceMethod ⟨"EchoGorgeModel","<init>","()V"⟩) : Cond) ∈ GW := tw6 (List.mem_of_getElem? (i := 112) rfl) rfl
theorem we1313 : ((Jvm.Cond.code ⟨"EchoGorgeModel","<init>","()V"⟩ prog_14_method_1_code 2 (Option.none : Option Jvm.ClassFile.FieldType)) : Cond) ∈ GW := tw6 (List.mem_of_getElem? (i := 113) rfl) rfl
theorem jL_8 : Nk RL 8 11 18 := ⟨RX11, TX11, tyX11, ci_X11, we27, we28, we1⟩
theorem jL_83 : Nk RL 83 12 87 := ⟨RX12, TX12, tyX12, ci_X12, we1309, we1310, we14⟩
theorem gL_82 : LkB RL 82 mX11_init 0 := ⟨we29, we1, (by unfold yw; rw [if_pos rfl]; exact we31), ⟨by decide, by decide, by decide +kernel⟩, by decide⟩
theorem gL_85 : LkB RL 85 mX12_init 0 := ⟨we1311, we14, (by unfold yw; rw [if_pos rfl]; exact we1313), ⟨by decide, by decide, by decide +kernel⟩, by decide⟩
theorem law_wp {L : Nat} {xs : Nat → Int} {Q : RS → Nat → AH → Prop} (hL : L ≤ 384) (hx : ∀ j, R32 (xs j)) (hQ : ∀ n h, Q (.inl (some (zI 1))) n h) : Wp mL_law (false, 1000, 600128, 7301097, L, xs) Q (600128, 7301097) 0 [zR (-100), none, none, none, none, none, none] [] 0 (fun _ _ => 0) := by
  have fz : frz 0 (fun _ _ => 0) := fun _ _ _ => rfl
  refine f_new dL_law_0 jL_8 rfl rfl (by decide) (by decide) fz (fun fz => ?_)
  show Wp _ _ _ (600127, 7301079) _ _ [zR 1] 1 _
  refine s_dup dL_law_3 rfl ?_
  refine s_callI (as := []) (st := [zR 1]) (o := 1) dL_law_4 gL_82 rfl we30 rfl rfl (by decide) rfl rfl (Nat.le_of_ble_eq_true rfl) (n_X11_init_1 (fr := 999) (by decide) fz) rF_nt (Nat.le_of_ble_eq_true rfl) (by decide) (by decide) (fun v n9 h9 hP _ => ?_)
  obtain ⟨z1, z2, fz, z3⟩ := hP
  cases z1; subst z2; subst z3
  show Wp _ _ _ (600031, 7293407) _ _ [zR 1] 97 _
  refine s_astore_n dL_law_7 rfl (by decide) ?_
  refine f_new dL_law_8 jL_83 rfl rfl (by decide) (by decide) fz (fun fz => ?_)
  show Wp _ _ _ (600030, 7293320) _ _ [zR 98] 98 _
  refine s_dup dL_law_11 rfl ?_
  refine s_callI (as := []) (st := [zR 98]) (o := 98) dL_law_12 gL_85 rfl we1312 rfl rfl (by decide) rfl rfl (Nat.le_of_ble_eq_true rfl) (n_X12_init_98 (fr := 999) (by decide) fz) rF_nt (Nat.le_of_ble_eq_true rfl) (by decide) (by decide) (fun v n9 h9 hP _ => ?_)
  obtain ⟨z1, z2, fz, z3⟩ := hP
  cases z1; subst z2; subst z3
  show Wp _ _ _ (599992, 7283297) _ _ [zR 98] 136 _
  refine s_astore_n dL_law_15 rfl (by decide) ?_
  refine s_iconst dL_law_16 ?_
  refine f_newarr (N := 1) (K := 103) dL_law_17 we1577 (Or.inr (Or.inr (Or.inr ⟨rfl, rfl⟩))) rfl rfl rfl (by decide) (by decide) fz (fun fz => ?_)
  show Wp _ _ _ (599991, 7283296) _ _ [zR 137] 137 _
  refine s_astore_n dL_law_19 rfl (by decide) ?_
  refine s_iconst dL_law_20 ?_
  refine s_istore dL_law_21 rfl (by decide) ?_
  show Wp _ _ _ (599991, 7283296) 23 [zR (-100), zR 1, zR 98, zR 137, zI 0, none, none] [] 137 hE
  have hfl := flags_at (h := hE) (n := 137) hE_flags
  generalize hg : hE = hh at hfl ⊢
  refine s_made (k2 := kL L xs) rfl rfl rfl hfl (by decide +kernel) ?_
  rw [← hg]
  show Wp mL_law (kL L xs) Q (599991, 7283296) 23 [zR (-100), zR 1, zR 98, zR 137, zI 0, none, none] [] 137 hE
  exact law_loop hL hx hQ 64 0 _ _ hE _ _ hE_REL (by decide) (by omega) (by omega) (by decide) (by decide)
