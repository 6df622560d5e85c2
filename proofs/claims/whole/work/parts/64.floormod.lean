/-! ===== Math.floorMod: a method of a class with natives of its own ===== -/
section FloorMod
variable {l : Launch}
theorem vxF_ofW {y : MethodName} {ws ws' : List Cond} {rm : Room} {Pc : Array Value → State → Prop} {Qc : Array Value → State → Outcome → State → Prop} {XC : String → State → State → Prop} {mc ms : Nat} {free : Addr → Prop} {cc : ByteArray} {maxL : Nat} {ret : Option FieldType}
    (hy : plainFor y = true) (hw : ws = Cond.code y cc maxL ret :: ws')
    (body : ∀ p e s m args below meth c s₁, BodyLoose p l y (headSpec ws rm) cc maxL ret e s m args below meth c s₁ → c.maxLocals = maxL → (∀ x ∈ c.exceptionTable.toList, False) → Pc args s →
      W p l e (headSpec ws rm).room s m args below meth c s.heap [] 0 0 (vx_MQ below Qc XC args s mc ms free) (entryFrame m args maxL)) : vx_Met l y ws rm Pc Qc XC mc ms free := by
  refine MetFree.of_bodySF (code := cc) (maxLocals := maxL) (ret := ret) hy ?_ ?_
  · intro args s m h hn
    obtain ⟨meth, c, h1, h2, h3, h4, h5, h6, -, -⟩ := Cond.code_spec hn (atoms_spec (ws := ws) h _ (by rw [hw]; exact List.mem_cons_self))
    exact ⟨meth, c, h1, h2, h3, h4, h5, h6⟩
  · intro p e s m args below meth c s₁ B hml hP _
    have hh0 : s₁.heap = s.heap := by rw [B.state]; rfl
    have ht : ∀ x ∈ c.exceptionTable.toList, False := by
      obtain ⟨meth9, c9, h1, h2, -, -, -, -, h7, -⟩ := Cond.code_spec B.named (atoms_spec (ws := ws) B.pre _ (by rw [hw]; exact List.mem_cons_self))
      cases Option.some.inj (h1.symm.trans B.method)
      cases Option.some.inj (h2.symm.trans (Stand.of_body B).code)
      intro x hx
      rw [Array.isEmpty_iff.mp h7] at hx
      cases hx
    obtain ⟨t, a1, o, b1, b2, b3⟩ := body p e s m args below meth c s₁ B hml ht hP s₁ hh0 (Stand.of_body B)
    exact ⟨t, o, a1, b1, b2, b3⟩
end FloorMod
theorem Sp.ofF {Y : YD} {md : Bool} {fr mc ms n : Nat} {args : List AV} {h : AH} {P : RS → Nat → AH → Prop} (hpl : plainFor Y.nm = true) (hcls : Y.nm.cls = Y.own) (hini : Y.ini = true → Y.nm.name = "<init>") (hlaw : Y.law = false) (hex : Y.exc = []) (hc : ∀ v ∈ args, zcat v = 1) (hlen : args.length ≤ Y.nL)
    (hW : Wp Y (md, fr, mc, ms, 0, fun _ => 0) P (mc, ms) 0 (lof Y.nL args) [] n h) : Sp Y md fr mc ms args n h P := by
  intro l D tc ad sz hst
  have body : ∀ p e s m args' below meth c s₁, BodyLoose p l Y.nm (headSpec (yw Y :: GW) (zRm fr mc ms)) Y.cd Y.nL Y.ret e s m args' below meth c s₁ → c.maxLocals = Y.nL → c.exceptionTable.toList = tableOf Y.exc → zPc md D tc ad sz n h args args' s →
      W p l e (headSpec (yw Y :: GW) (zRm fr mc ms)).room s m args' below meth c s.heap [] 0 0 (vx_MQ below (zQc P md mc D tc ad (va_A (zw md ad tc n h) sz)) (zXc P md D tc ad (va_A (zw md ad tc n h) sz)) args' s mc ms (va_A (zw md ad tc n h) sz)) (entryFrame m args' Y.nL) := by
    intro p e s m args' below meth c s₁ B hml hexc hv
    obtain ⟨rfl, hsz, hP, hK, hD0, hE, hN⟩ := hv
    subst hsz
    have hts := atoms_spec (ws := yw Y :: GW) B.pre
    have q := hW p l e (zRm fr mc ms) s m (args.map (zv ad)).toArray below meth c (va_A (zw md ad tc n h) s.heap.size) D tc ad s.heap [] 0 0 _
      ⟨⟨B.exec, B.bytes, hml, B.returns, B.notSynchronized⟩, by rw [← hcls]; exact findClass_of_methodNamed B.named, fun w hw => hts w (List.mem_cons_of_mem _ hw), hK, fun q z => Or.inr z, ⟨Nat.le_refl _, Nat.le_refl _, Nat.le_refl _, Nat.le_refl _⟩, hst, hE, fun z => by rw [(name_of_methodNamed B.named B.method).1]; exact hini z, hexc, fun z => by rw [hlaw] at z; cases z⟩
      ⟨hP, hD0.self, va_S.rf⟩ ⟨by show 0 + mc ≤ mc; omega, by show 0 + ms ≤ ms; omega, fun z => ⟨by show 0 + mc = mc; omega, n, rfl, hN z⟩⟩ (zl_entry hc hlen)
    unfold zFin at q
    rw [if_neg (by rw [hlaw]; decide)] at q
    rw [lg_entry_eq]
    exact q
  have e1 : yw Y = .code Y.nm Y.cd Y.nL Y.ret := by unfold yw; rw [if_pos hex]
  have hg : vx_Met l Y.nm (Cond.code Y.nm Y.cd Y.nL Y.ret :: GW) (zRm fr mc ms) (zPc md D tc ad sz n h args) (zQc P md mc D tc ad (va_A (zw md ad tc n h) sz)) (zXc P md D tc ad (va_A (zw md ad tc n h) sz)) mc ms (va_A (zw md ad tc n h) sz) := by
    refine vxF_ofW (cc := Y.cd) (maxL := Y.nL) (ret := Y.ret) hpl rfl ?_
    intro p e s m args' below meth c s₁ B hml htab hv
    rw [e1] at body
    refine body p e s m args' below meth c s₁ B hml ?_ hv
    rw [hex]
    cases hx : c.exceptionTable.toList with
    | nil => rfl
    | cons x r => exact (htab x (by rw [hx]; exact List.mem_cons_self)).elim
  rw [e1]
  exact hg
theorem fm_tab : ∀ (k : Fin 160) (y : Fin 32), (-2147483648 ≤ bXor ((k.val : Int) - 120) ((y.val : Int) + 1) ∧ bXor ((k.val : Int) - 120) ((y.val : Int) + 1) < 2147483648) ∧ (-2147483648 ≤ bRem ((k.val : Int) - 120) ((y.val : Int) + 1) ∧ bRem ((k.val : Int) - 120) ((y.val : Int) + 1) < 2147483648) ∧ (0 ≤ bXor ((k.val : Int) - 120) ((y.val : Int) + 1) → bRem ((k.val : Int) - 120) ((y.val : Int) + 1) = ((k.val : Int) - 120) % ((y.val : Int) + 1)) ∧ (bXor ((k.val : Int) - 120) ((y.val : Int) + 1) < 0 → (bRem ((k.val : Int) - 120) ((y.val : Int) + 1) = 0 → bRem ((k.val : Int) - 120) ((y.val : Int) + 1) = ((k.val : Int) - 120) % ((y.val : Int) + 1)) ∧ (¬ bRem ((k.val : Int) - 120) ((y.val : Int) + 1) = 0 → bRem ((k.val : Int) - 120) ((y.val : Int) + 1) + ((y.val : Int) + 1) = ((k.val : Int) - 120) % ((y.val : Int) + 1))) := by decide +kernel
theorem c_floorMod {fr : Nat} {x y : Int} {h : AH} (x0 : -120 ≤ x) (x1 : x < 40) (y0 : 0 < y) (y1 : y ≤ 32) : Sp mJ9_floorMod_7cf53 true fr 0 0 [zI x, zI y] 137 h (rI (fun r h' => h' = h ∧ r = x % y)) := by
  refine Sp.ofF (by decide +kernel) rfl (by decide) rfl rfl (fun v hv => ?_) (Nat.le_of_ble_eq_true rfl) ?_
  · have : ([zI x, zI y] : List AV).all (fun v => zcat v == 1) = true := rfl
    have := List.all_eq_true.mp this v hv
    simpa using this
  have t := fm_tab ⟨(x + 120).toNat, by omega⟩ ⟨(y - 1).toNat, by omega⟩
  simp only at t
  rw [show (((x + 120).toNat : Nat) : Int) - 120 = x by omega, show (((y - 1).toNat : Nat) : Int) + 1 = y by omega] at t
  obtain ⟨t1, t2, t3, t4⟩ := t
  show Wp mJ9_floorMod_7cf53 (kR fr 0 0) (rI (fun r h' => h' = h ∧ r = x % y)) (0, 0) 0 [zI x, zI y, none] [] 137 h
  refine s_iload_n (x := x) dJ9_floorMod_7cf53_0 rfl ?_
  refine s_iload_n (x := y) dJ9_floorMod_7cf53_1 rfl ?_
  refine s_irem dJ9_floorMod_7cf53_2 ⟨by omega, by omega⟩ (by omega) ?_
  refine s_istore_n dJ9_floorMod_7cf53_3 rfl (by decide) ?_
  refine s_iload_n (x := x) dJ9_floorMod_7cf53_4 rfl ?_
  refine s_iload_n (x := y) dJ9_floorMod_7cf53_5 rfl ?_
  refine s_ixor dJ9_floorMod_7cf53_6 ?_
  refine s_if_ge (tgt := 18) dJ9_floorMod_7cf53_7 (by decide) t1 (fun q => ?_) (fun q => ?_)
  · exact bJ9_floorMod_7cf53_18 (hq := ⟨_, rfl, rfl, rfl, t3 q⟩)
  · refine bJ9_floorMod_7cf53_10 (kt := fun z => ?_) (kf := fun z => ?_)
    · exact bJ9_floorMod_7cf53_18 (hq := ⟨_, rfl, rfl, rfl, (t4 q).1 z⟩)
    · exact bJ9_floorMod_7cf53_14 (hq := ⟨_, rfl, rfl, rfl, (t4 q).2 z⟩)
