section RulesE
variable {Y : YD} {k : KD} {Q : RS → Nat → AH → Prop} {b : Nat × Nat} {pc : Nat} {ls st : List AV} {n : Nat} {h : AH}

theorem s_throw {ik ic : Nat} {E : String} (hT : thrOf ik ic E) (hy : Y.own = "EchoGorge") (d0 : decode Y.cd pc = .ok (.new ik, 3)) (d3 : decode Y.cd (pc + 3) = .ok (.dup, 1)) (d4 : decode Y.cd (pc + 4) = .ok (.invokespecial ic, 3)) (d7 : decode Y.cd (pc + 7) = .ok (.athrow, 1)) (hex : Y.exc = []) (hlw : Y.law = false) (hmd : k.md = true) (hfr : 8 ≤ k.fr) (hst0 : (st.map zcat).sum ≤ 8) (hb1 : 1 ≤ b.1) (hb2 : 6 ≤ b.2) (hw1 : Cond.classLink "EchoGorge" ik E ∈ GW) (hw2 : Cond.initialized E ∈ GW) (hq : Q (.inr E) n h) : Wp Y k Q b pc ls st n h := by
  intro p l e R s m args below meth cd A D tc ad H locs cells slots ls' C hH hB hl
  have C0 := C
  obtain ⟨⟨hx, hb, hml, hr, hlk⟩, hown, hts, hK, hA, hR, hst, hE, hin, hexc, hlaw⟩ := C0
  unfold zFin
  rw [if_neg (by rw [hlw]; decide)]
  rw [hy] at hown
  have hgw : ∀ w ∈ GW, goodWord w = true := fun w z => (List.mem_filter.mp z).2
  have hout : ∀ x ∈ cd.exceptionTable.toList, covers x (pc + 7) = false := by rw [hexc, hex]; intro x z; cases z
  have hXC : ∀ t : State, s.vm.Alike t.vm → H.size ≤ t.heap.size → (∀ q : Nat, q < H.size → t.heap[q]? = H[q]?) → zXc Q k.md D tc ad A E s t := fun t _ hsz hsame =>
    ⟨⟨n, h, hmd, hq, hH.1.kept (fun kk q hk => hsame q.1 (hH.1 kk q hk).lt), hH.2.1⟩, Nat.le_trans hH.2.2.1 hsz, fun q q1 q2 => by rw [hsame q (Nat.lt_of_lt_of_le q1 hH.2.2.1)]; exact hH.2.2.2.1 q q1 q2⟩
  have hfr2 : 8 ≤ R.frames := Nat.le_trans hfr hR.1
  have hlo2 : 480 ≤ R.locals := by have := hR.2.1; have : 60 * 8 ≤ 60 * k.fr := Nat.mul_le_mul_left 60 hfr; omega
  have hRl : ((st.map (zv ad)).map fun v => v.category).sum + (13 * (["java/lang/RuntimeException", "java/lang/Exception"].length + 1) + 42) ≤ R.locals := by rw [zv_cats]; simp only [List.length_cons, List.length_nil]; omega
  have hB1 := hB.1
  have hB2 := hB.2.1
  rcases hT with ⟨rfl, rfl, rfl⟩ | ⟨rfl, rfl, rfl⟩
  · have hg := List.all_eq_true.mp thr_good1
    refine vx_throw0 (names := ["java/lang/RuntimeException", "java/lang/Exception"]) hx hb hst hown (by decide +kernel) (by decide +kernel) (hts _ hw1) (hts _ hw2) (fun w hw => ?_) (fun w hw => ?_) hE.2.1 hE.2.2.1 hH.2.2 (hl.1.trans hml.symm) d0 d3 d4 d7 hout (by simp only [List.length_cons, List.length_nil]; omega) hRl (by have := hR.2.2.1; omega) (by have := hR.2.2.2; omega) hlk hXC hH.2.2.2.2 (by omega) (by omega)
    · have z := hg w hw
      simp only [Bool.and_eq_true, Bool.or_eq_true, decide_eq_true_eq] at z
      rcases z.2 with z2 | z2
      · exact hts _ (gw_in (thr_in1 w (List.mem_filter.mpr ⟨hw, z2⟩)) z2)
      · simp only [List.mem_cons, List.not_mem_nil, or_false] at z2
        rcases z2 with rfl | rfl | rfl | rfl
        · exact va_Nw.use rfl (hE.2.2.2.2.2.2.2.2.1 _ (by decide +kernel))
        · exact va_Nw.use rfl (hE.2.2.2.2.2.2.2.2.2 _ (by decide +kernel))
        · exact va_Nw.use rfl (hE.2.2.2.2.2.2.2.2.2 _ (by decide +kernel))
        · exact va_Nw.use rfl (hE.2.2.2.2.2.2.2.2.2 _ (by decide +kernel))
    · rcases List.mem_cons.mp hw with rfl | hw
      · rfl
      · rcases List.mem_cons.mp hw with rfl | hw
        · rfl
        · have z := hg w hw
          simp only [Bool.and_eq_true] at z
          exact z.1
  · have hg := List.all_eq_true.mp thr_good2
    refine vx_throw0 (names := ["java/lang/RuntimeException", "java/lang/Exception"]) hx hb hst hown (by decide +kernel) (by decide +kernel) (hts _ hw1) (hts _ hw2) (fun w hw => ?_) (fun w hw => ?_) hE.2.1 hE.2.2.1 hH.2.2 (hl.1.trans hml.symm) d0 d3 d4 d7 hout (by simp only [List.length_cons, List.length_nil]; omega) hRl (by have := hR.2.2.1; omega) (by have := hR.2.2.2; omega) hlk hXC hH.2.2.2.2 (by omega) (by omega)
    · have z := hg w hw
      simp only [Bool.and_eq_true, Bool.or_eq_true, decide_eq_true_eq] at z
      rcases z.2 with z2 | z2
      · exact hts _ (gw_in (thr_in2 w (List.mem_filter.mpr ⟨hw, z2⟩)) z2)
      · simp only [List.mem_cons, List.not_mem_nil, or_false] at z2
        rcases z2 with rfl | rfl | rfl | rfl
        · exact va_Nw.use rfl (hE.2.2.2.2.2.2.2.2.1 _ (by decide +kernel))
        · exact va_Nw.use rfl (hE.2.2.2.2.2.2.2.2.2 _ (by decide +kernel))
        · exact va_Nw.use rfl (hE.2.2.2.2.2.2.2.2.2 _ (by decide +kernel))
        · exact va_Nw.use rfl (hE.2.2.2.2.2.2.2.2.2 _ (by decide +kernel))
    · rcases List.mem_cons.mp hw with rfl | hw
      · rfl
      · rcases List.mem_cons.mp hw with rfl | hw
        · rfl
        · have z := hg w hw
          simp only [Bool.and_eq_true] at z
          exact z.1
end RulesE
/-! ===== contracts ===== -/
abbrev zRm (fr mc ms : Nat) : Room := { frames := fr, cells := mc, slots := ms, locals := 60 * fr }
def yw (Y : YD) : Cond := if Y.exc = [] then .code Y.nm Y.cd Y.nL Y.ret else .codeWith Y.nm Y.cd Y.nL Y.ret Y.exc
def zPc (md : Bool) (D : va_G) (tc : Nat → ClassId) (ad : Int → Nat) (sz n : Nat) (h : AH) (args : List AV) : Array Value → State → Prop :=
  va_Pc (args.map (zv ad)) (fun U => U.heap.size = sz ∧ va_P D vwCl (zw md ad tc n h) U.heap ∧ va_K D vwCl (ztys tc) U ∧ va_D (fun _ => True) (zw md ad tc n h) ∧ zE ad (va_A (zw md ad tc n h) sz) U U.heap ∧ (md = false → ∀ j : Nat, ad ((n : Int) + 1 + j) = sz + j))
/-- called so, the method ends with P -/
def Sp (Y : YD) (md : Bool) (fr mc ms : Nat) (args : List AV) (n : Nat) (h : AH) (P : RS → Nat → AH → Prop) : Prop :=
  ∀ (l : Launch) (D : va_G) (tc : Nat → ClassId) (ad : Int → Nat) (sz : Nat), l.stackTraces = false →
    vx_Met l Y.nm (yw Y :: GW) (zRm fr mc ms) (zPc md D tc ad sz n h args) (zQc P md mc D tc ad (va_A (zw md ad tc n h) sz)) (zXc P md D tc ad (va_A (zw md ad tc n h) sz)) mc ms (va_A (zw md ad tc n h) sz)
/-- the locals at a method's start -/
def lof (nL : Nat) (args : List AV) : List AV := args ++ List.replicate (nL - args.length) none
theorem lv_args_mem {ad : Int → Nat} : ∀ (args : List AV) (o : Nat), (∀ v ∈ args, zcat v = 1) → ∀ (i : Nat) (v : AV), args[i]? = some v → (o + i, zv ad v) ∈ lv_args o (args.map (zv ad))
  | [], _, _, i, v, hi => by simp at hi
  | a :: r, o, hc, 0, v, hi => by
    simp at hi
    subst hi
    simp [lv_args]
  | a :: r, o, hc, i + 1, v, hi => by
    have ha : (zv ad a).category = 1 := (zv_cat ad a).trans (hc a List.mem_cons_self)
    rw [List.map_cons, lv_args, if_neg (by rw [ha]; decide)]
    refine List.mem_cons_of_mem _ ?_
    have := lv_args_mem (ad := ad) r (o + 1) (fun v hv => hc v (List.mem_cons_of_mem _ hv)) i v (by simpa using hi)
    rw [show o + (i + 1) = o + 1 + i by omega]
    exact this
theorem lg_sl_len {ad : Int → Nat} : ∀ (args : List AV), (∀ v ∈ args, zcat v = 1) → (lg_sl (args.map (zv ad))).length = args.length
  | [], _ => rfl
  | a :: r, hc => by
    have ha : (zv ad a).category = 1 := (zv_cat ad a).trans (hc a List.mem_cons_self)
    have ih := lg_sl_len (ad := ad) r (fun v hv => hc v (List.mem_cons_of_mem _ hv))
    unfold lg_sl at ih ⊢
    rw [List.map_cons, List.flatMap_cons, if_neg (by rw [ha]; decide), List.length_append, ih, List.length_cons, List.length_cons]
    simp
    omega
theorem zl_entry {ad : Int → Nat} {args : List AV} {nL : Nat} (hc : ∀ v ∈ args, zcat v = 1) (hlen : args.length ≤ nL) : zl ad (lof nL args) nL ((lg_sl (args.map (zv ad)) ++ List.replicate (nL - (lg_sl (args.map (zv ad))).length) Slot.unset).toArray) := by
  have h := lv_entry (args.map (zv ad)) (n := nL) (by rw [lg_sl_len args hc]; exact hlen)
  refine ⟨h.1, h.2.1, fun q hq => ?_⟩
  obtain ⟨i, w⟩ := q
  obtain ⟨v, h1, h2, h3⟩ := lvl_mem.mp hq
  refine h.2.2 _ ?_
  unfold lof at h1
  by_cases hi : i < args.length
  · rw [List.getElem?_append_left hi] at h1
    have := lv_args_mem (ad := ad) args 0 hc i v h1
    rw [Nat.zero_add] at this
    rw [h3]
    exact this
  · rw [List.getElem?_append_right (by omega)] at h1
    have := List.mem_of_getElem? h1
    rw [(List.mem_replicate.mp this).2] at h2
    cases h2
/-- what a method's data must be -/
def Yok (Y : YD) : Prop := plainName Y.nm.cls = true ∧ Y.nm.cls = Y.own ∧ (Y.ini = true → Y.nm.name = "<init>") ∧ Y.law = false
theorem Sp.of {Y : YD} {md : Bool} {fr mc ms n : Nat} {args : List AV} {h : AH} {P : RS → Nat → AH → Prop} (hy : Yok Y) (hc : ∀ v ∈ args, zcat v = 1) (hlen : args.length ≤ Y.nL)
    (hW : Wp Y (md, fr, mc, ms, 0, fun _ => 0) P (mc, ms) 0 (lof Y.nL args) [] n h) : Sp Y md fr mc ms args n h P := by
  obtain ⟨hpl, hcls, hini, hlaw⟩ := hy
  intro l D tc ad sz hst
  have body : ∀ p e s m args' below meth c s₁, BodyLoose p l Y.nm (headSpec (yw Y :: GW) (zRm fr mc ms)) Y.cd Y.nL Y.ret e s m args' below meth c s₁ → c.maxLocals = Y.nL → c.exceptionTable.toList = tableOf Y.exc → zPc md D tc ad sz n h args args' s →
      W p l e (headSpec (yw Y :: GW) (zRm fr mc ms)).room s m args' below meth c s.heap [] 0 0 (vx_MQ below (zQc P md mc D tc ad (va_A (zw md ad tc n h) sz)) (zXc P md D tc ad (va_A (zw md ad tc n h) sz)) args' s mc ms (va_A (zw md ad tc n h) sz)) (entryFrame m args' Y.nL) := by
    intro p e s m args' below meth c s₁ B hml hexc hv
    obtain ⟨rfl, hsz, hP, hK, hD0, hE, hN⟩ := hv
    subst hsz
    have hts := atoms_spec (ws := yw Y :: GW) B.pre
    have q := hW p l e (zRm fr mc ms) s m (args.map (zv ad)).toArray below meth c (va_A (zw md ad tc n h) s.heap.size) D tc ad s.heap [] 0 0 _
      ⟨⟨B.exec, B.bytes, hml, B.returns, B.notSynchronized⟩, by rw [← hcls]; exact findClass_of_methodNamed B.named, fun w hw => hts w (List.mem_cons_of_mem _ hw), hK, fun q z => Or.inr z, ⟨Nat.le_refl _, Nat.le_refl _, Nat.le_refl _, Nat.le_refl _⟩, hst, hE, fun z => by rw [(name_of_methodNamed B.named B.method).1]; exact hini z, hexc, fun z => by rw [hlaw] at z; cases z⟩
      ⟨hP, hD0.self, va_S.rf⟩ ⟨by show 0 + mc ≤ mc; omega, by show 0 + ms ≤ ms; omega, fun z => ⟨by show 0 + mc = mc; omega, n, rfl, hN z⟩⟩ (zl_entry hc hlen)
    unfold zFin at q
    rw [if_neg (by rw [hlaw]; decide)] at q
    rw [lg_entry_eq]
    exact q
  by_cases hex : Y.exc = []
  · have e1 : yw Y = .code Y.nm Y.cd Y.nL Y.ret := by unfold yw; rw [if_pos hex]
    have hg : vx_Met l Y.nm (Cond.code Y.nm Y.cd Y.nL Y.ret :: GW) (zRm fr mc ms) (zPc md D tc ad sz n h args) (zQc P md mc D tc ad (va_A (zw md ad tc n h) sz)) (zXc P md D tc ad (va_A (zw md ad tc n h) sz)) mc ms (va_A (zw md ad tc n h) sz) := by
      refine vx_ofW (cc := Y.cd) (maxL := Y.nL) (ret := Y.ret) hpl rfl ?_
      intro p e s m args' below meth c s₁ B hml htab hv
      rw [e1] at body
      refine body p e s m args' below meth c s₁ B hml ?_ hv
      rw [hex]
      cases hx : c.exceptionTable.toList with
      | nil => rfl
      | cons x r => exact (htab x (by rw [hx]; exact List.mem_cons_self)).elim
    rw [e1]
    exact hg
  · have e1 : yw Y = .codeWith Y.nm Y.cd Y.nL Y.ret Y.exc := by unfold yw; rw [if_neg hex]
    have hg : vx_Met l Y.nm (Cond.codeWith Y.nm Y.cd Y.nL Y.ret Y.exc :: GW) (zRm fr mc ms) (zPc md D tc ad sz n h args) (zQc P md mc D tc ad (va_A (zw md ad tc n h) sz)) (zXc P md D tc ad (va_A (zw md ad tc n h) sz)) mc ms (va_A (zw md ad tc n h) sz) := by
      refine vx_ofWH (cc := Y.cd) (maxL := Y.nL) (ret := Y.ret) (hh := Y.exc) hpl rfl ?_
      intro p e s m args' below meth c s₁ B hml hv
      rw [e1] at body
      refine body p e s m args' below meth c s₁ B hml ?_ hv
      exact vx_table (x := Y.nm) B (atoms_spec (ws := Cond.codeWith Y.nm Y.cd Y.nL Y.ret Y.exc :: GW) B.pre _ List.mem_cons_self)
    rw [e1]
    exact hg
