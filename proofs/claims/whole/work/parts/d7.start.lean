/-! ===== the start: what the Statement gives, as the abstract machine's ===== -/
abbrev FLc : List Cond := flatC (Jvm.Cond.and given_1 narrow_1)
def tmS (i : Nat) : Term := .string "EchoGorge$Reader" (zStr.getD i (0, "")).1
theorem fs_ex : ∀ i : Fin 10, Cond.exactly (tmS i.val) "java/lang/String" ∈ FLc := by decide +kernel
theorem fs_co : ∀ i : Fin 10, Cond.eq (.field (tmS i.val) "java/lang/String" "coder" "B") (.int 0) ∈ FLc := by decide +kernel
theorem fs_ar : ∀ i : Fin 10, Cond.arrayOf (.field (tmS i.val) "java/lang/String" "value" "[B") .byte ∈ FLc := by decide +kernel
theorem fs_le : ∀ i : Fin 10, Cond.eq (.length (.field (tmS i.val) "java/lang/String" "value" "[B")) (.int (Int32.ofNat (zStrL.getD i.val 0))) ∈ FLc := by decide +kernel
theorem fs_el : ∀ i : Fin 10, ∀ j : Fin 10, j.val < zStrL.getD i.val 0 → Cond.eq (.elem (.field (tmS i.val) "java/lang/String" "value" "[B") (.int (Int32.ofNat j.val))) (.int ((zStrB.getD i.val []).getD j.val 0)) ∈ FLc := by decide +kernel
theorem fs_ne : ∀ i j : Fin 10, i ≠ j → Cond.not (Cond.eq (tmS i.val) (tmS j.val)) ∈ FLc ∨ Cond.not (Cond.eq (tmS j.val) (tmS i.val)) ∈ FLc := by decide +kernel
theorem fs_len : ∀ i : Fin 10, zStrL.getD i.val 0 < 10 := by decide +kernel
theorem fs_ref : ∀ i : Fin 10, Cond.stringRef "EchoGorge$Reader" (zStr.getD i.val (0, "")).1 (zStr.getD i.val (0, "")).2 ∈ lw_tbl := by decide +kernel
theorem fs_nest : ∀ q ∈ zNest, Cond.methodLinkNest q.1 q.2.1 q.2.2.1 q.2.2.2 ∈ lw_tbl := by decide +kernel
theorem fs_thr : ∀ C ∈ zThr, Cond.castable C C ∈ lw_tbl := by decide +kernel
theorem fs_sup : ∀ C ∈ zSup, Cond.declares (Bundle.init0 C) ∈ lw_tbl := by decide +kernel
theorem start_zE {s : State} {b : Nat} (hts : ∀ w ∈ lw_tbl, w.before #[Value.ref b] s = true) (hg : (Jvm.Cond.and given_1 narrow_1).before #[Value.ref b] s = true) : ∃ adK adV : Nat → Nat, ∀ ad : Int → Nat, (∀ i : Nat, i < 10 → ad (-(i : Int) - 1) = adK i ∧ ad (-(i : Int) - 200) = adV i) → zE ad (fun q => s.heap.size ≤ q) s s.heap := by
  have hs := flat_of_before _ hg
  have hA : ∀ a : Nat, a < s.heap.size → ¬ (fun q : Nat => s.heap.size ≤ q) a := fun a h => Nat.not_le.mpr h
  obtain ⟨adK, adV, hS, hev⟩ := vk_Sof (N := 10) (tm := tmS) (len := zStrL) (byt := zStrB) (args := #[Value.ref b]) (s := s) (A := fun q => s.heap.size ≤ q)
    (fun i hi => Nat.lt_of_lt_of_le (fs_len ⟨i, hi⟩) (by decide))
    (fun i hi => hs _ (fs_ex ⟨i, hi⟩)) (fun i hi => hs _ (fs_co ⟨i, hi⟩)) (fun i hi => hs _ (fs_ar ⟨i, hi⟩)) (fun i hi => hs _ (fs_le ⟨i, hi⟩))
    (fun i hi j hj => hs _ (fs_el ⟨i, hi⟩ ⟨j, Nat.lt_trans hj (fs_len ⟨i, hi⟩)⟩ hj))
    (fun i j hi hj hij => (fs_ne ⟨i, hi⟩ ⟨j, hj⟩ (fun z => hij (congrArg Fin.val z))).imp (fun z => hs _ z) (fun z => hs _ z)) hA
  refine ⟨adK, adV, fun ad had => ⟨fun q hq => va_Nw.of rfl (hts _ (fs_nest q hq)), ?_, ?_, ?_, ?_, ?_, ?_, ?_, fun C hC => va_Nw.of rfl (hts _ (fs_thr C hC)), fun C hC => va_Nw.of rfl (hts _ (fs_sup C hC))⟩⟩
  · exact vx_Zqof (args := #[Value.ref b]) (hts _ (by decide +kernel)) (hts _ (by decide +kernel)) (hs _ (by decide +kernel)) hA
  · exact vx_Zqof (args := #[Value.ref b]) (hts _ (by decide +kernel)) (hts _ (by decide +kernel)) (hs _ (by decide +kernel)) hA
  · exact va_Nc.of (args := #[Value.ref b]) (hs _ (by decide +kernel))
  · exact va_Zof (args := #[Value.ref b]) (hts _ (by decide +kernel)) (hts _ (by decide +kernel)) (va_eqt (hs _ (by decide +kernel))) hA
  · exact va_Zqof (args := #[Value.ref b]) (hts _ (by decide +kernel)) (hts _ (by decide +kernel)) (hs _ (by decide +kernel)) hA
  · obtain ⟨S1, S2⟩ := hS
    refine ⟨fun i hi => ?_, fun i j hi hj e => ?_⟩
    · dsimp only; rw [(had i hi).1, (had i hi).2]; exact S1 i hi
    · dsimp only at e; rw [(had i hi).1, (had j hj).1] at e; exact S2 i j hi hj e
  · intro i q hq
    have hi : i < 10 := by
      have := (List.getElem?_eq_some_iff.mp hq).1
      exact this
    have eq : zStr.getD i (0, "") = q := by rw [List.getD_eq_getElem?_getD, hq]; rfl
    have r := fs_ref ⟨i, hi⟩
    have v := hev i hi
    unfold tmS at v
    rw [(had i hi).1]
    dsimp only at r
    rw [eq] at r v
    exact vk_R.of (A := #[Value.ref b]) (hts _ r) v
theorem start_K {s : State} {b : Nat} (hts : ∀ w ∈ lw_tbl, w.before #[Value.ref b] s = true) : ∃ (D : va_G) (tc : Nat → ClassId), va_K D vwCl (ztys tc) s := by
  have hg : ∀ w ∈ GW, w.before #[Value.ref b] s = true := fun w hw => hts w (List.mem_filter.mp hw).1
  have h1 : ∀ (c : Nat) (q : vw_C), vwCl[c]? = some q → ∃ z : ClassId × (Nat → Nat), u_Kn s q.1 q.2.1 q.2.2 z.1 z.2 := by
    intro c q hq
    match c, hq with
    | 0, hq => cases hq; obtain ⟨x, y, z⟩ := u_known hg in_X0 (hts (.instantiable RX0 1) (by decide +kernel)); exact ⟨(x, y), z⟩
    | 1, hq => cases hq; obtain ⟨x, y, z⟩ := u_known hg in_X1 (hts (.instantiable RX1 5) (by decide +kernel)); exact ⟨(x, y), z⟩
    | 2, hq => cases hq; obtain ⟨x, y, z⟩ := u_known hg in_X2 (hts (.instantiable RX2 21) (by decide +kernel)); exact ⟨(x, y), z⟩
    | 3, hq => cases hq; obtain ⟨x, y, z⟩ := u_known hg in_X3 (hts (.instantiable RX3 8) (by decide +kernel)); exact ⟨(x, y), z⟩
    | 4, hq => cases hq; obtain ⟨x, y, z⟩ := u_known hg in_X4 (hts (.instantiable RX4 9) (by decide +kernel)); exact ⟨(x, y), z⟩
    | 5, hq => cases hq; obtain ⟨x, y, z⟩ := u_known hg in_X5 (hts (.instantiable RX5 2) (by decide +kernel)); exact ⟨(x, y), z⟩
    | 6, hq => cases hq; obtain ⟨x, y, z⟩ := u_known hg in_X6 (hts (.instantiable RX6 12) (by decide +kernel)); exact ⟨(x, y), z⟩
    | 7, hq => cases hq; obtain ⟨x, y, z⟩ := u_known hg in_X7 (hts (.instantiable RX7 9) (by decide +kernel)); exact ⟨(x, y), z⟩
    | 8, hq => cases hq; obtain ⟨x, y, z⟩ := u_known hg in_X8 (hts (.instantiable RX8 8) (by decide +kernel)); exact ⟨(x, y), z⟩
    | 9, hq => cases hq; obtain ⟨x, y, z⟩ := u_known hg in_X9 (hts (.instantiable RX9 9) (by decide +kernel)); exact ⟨(x, y), z⟩
    | 10, hq => cases hq; obtain ⟨x, y, z⟩ := u_known hg in_X10 (hts (.instantiable RX10 16) (by decide +kernel)); exact ⟨(x, y), z⟩
    | 11, hq => cases hq; obtain ⟨x, y, z⟩ := u_known hg in_X11 (hts (.instantiable RX11 18) (by decide +kernel)); exact ⟨(x, y), z⟩
    | 12, hq => cases hq; obtain ⟨x, y, z⟩ := u_known hg in_X12 (hts (.instantiable RX12 87) (by decide +kernel)); exact ⟨(x, y), z⟩
    | c + 13, hq => simp [vwCl] at hq
  obtain ⟨z0, -⟩ := h1 0 _ rfl
  have h2 : ∀ c : Nat, ∃ z : ClassId × (Nat → Nat), ∀ q : vw_C, vwCl[c]? = some q → u_Kn s q.1 q.2.1 q.2.2 z.1 z.2 := by
    intro c
    cases hq : vwCl[c]? with
    | none => exact ⟨z0, fun q z => by cases z⟩
    | some q =>
      obtain ⟨z, hz⟩ := h1 c q hq
      exact ⟨z, fun q' e => by cases e; exact hz⟩
  obtain ⟨D, hD⟩ := Classical.axiomOfChoice h2
  have harr : ∀ ty : FieldType, Cond.arrayClass ty ∈ lw_tbl → ∃ c : ClassId, s.vm.findClass ("[" ++ ty.toString) = some c ∧ ArrOfT s c ty := fun ty hw => by
    obtain ⟨c, k, comp, q1, q2, q3⟩ := Cond.arrayClass_spec (hts _ hw)
    exact ⟨c, q1, fun n z => ⟨fun k h => (by cases h), k, q2, comp, q3⟩⟩
  obtain ⟨cI, I1, I2⟩ := harr .int (by decide +kernel)
  obtain ⟨cB, B1, B2⟩ := harr .byte (by decide +kernel)
  obtain ⟨cZ, Z1, Z2⟩ := harr .boolean (by decide +kernel)
  obtain ⟨cL, L1, L2⟩ := harr .long (by decide +kernel)
  refine ⟨(fun c => (D c).1, fun c => (D c).2), fun k => if k = 0 then cI else if k = 1 then cB else if k = 2 then cZ else cL, fun c q hq => hD c q hq, fun k q hq => ?_⟩
  match k, hq with
  | 0, hq => cases hq; exact ⟨I2, I1⟩
  | 1, hq => cases hq; exact ⟨B2, B1⟩
  | 2, hq => cases hq; exact ⟨Z2, Z1⟩
  | 3, hq => cases hq; exact ⟨L2, L1⟩
  | k + 4, hq => simp at hq
