/-! ===== calls ===== -/
/-- E was thrown over the frame at pc: from here the method ends well -/
def Wx (Y : YD) (k : KD) (Q : RS → Nat → AH → Prop) (b : Nat × Nat) (pc : Nat) (ls : List AV) (n : Nat) (h : AH) (E : String) : Prop :=
  ∀ (p : Program) (l : Launch) (e : Env) (R : Room) (s : State) (m : MethodId) (args : Array Value) (below : List Frame) (meth : Method) (c : Code) (A : Nat → Prop) (D : va_G) (tc : Nat → ClassId) (ad : Int → Nat) (H : Heap) (locs : List Loc) (cells slots : Nat) (ls' : Array Slot) (rest : List Value) (q : Addr) (ce : Cell),
    zC Y k Q p l R s m args meth c A D tc ad → zH k.md D tc ad A s.heap n h H locs → zB k b ad s n cells slots → zl ad ls Y.nL ls' → H[q]? = some ce → ce.vm = .none → s.vm.findClass E = some ce.cls →
    vx_W p l e R s m args below meth c H locs cells slots (zFin Y k Q D tc ad A below args s) (F0 m pc ls' rest) q
/-- what stands before a call -/
theorem z_pre {md : Bool} {D : va_G} {tc : Nat → ClassId} {ad : Int → Nat} {A : Nat → Prop} {s : State} {n : Nat} {h : AH} {H : Heap} {locs : List Loc} {as : List AV} (hK : va_K D vwCl (ztys tc) s) (hA : ∀ q, s.heap.size ≤ q → A q) (hE : zE ad A s s.heap) (hH : zH md D tc ad A s.heap n h H locs) (hN : md = false → ∀ j : Nat, ad ((n : Int) + 1 + j) = H.size + j) :
    ∀ U : State, U.heap = H → s.WarmedH U.vm → zPc md D tc ad H.size n h as (as.map (zv ad)).toArray U := by
  intro U hU hW
  refine ⟨rfl, by rw [hU], by rw [hU]; exact hH.1, va_K.moved hW.alike hK, hH.2.1.weaken (fun _ _ _ _ => trivial), ?_, hN⟩
  rw [hU]
  refine ((hE.kept hH.2.2.2.1).narrow ?_).warm hW
  intro q hq
  rcases hq with ⟨kk, ee, z⟩ | z
  · exact hH.2.1.2 kk (q, ee) z
  · exact hA q (Nat.le_trans hH.2.2.1 z)
theorem z_blind {md : Bool} {D : va_G} {tc : Nat → ClassId} {ad : Int → Nat} {sz n : Nat} {h : AH} {as : List AV} : FrameBlind (zPc md D tc ad sz n h as) := by
  intro a U g mk q
  obtain ⟨q0, q1, q2, q3, q4, q5, q6⟩ := q
  exact ⟨q0, q1, q2, va_K.moved (u := U) (U := U.calling g mk a) (Vm.Alike.refl U.vm) q3, q4, zE.same (s := U) (U := U.calling g mk a) rfl q5, q6⟩
/-- while cells are made, the heap's size is told by their number -/
theorem z_size {p : Program} {l : Launch} {e : Env} {R : Room} {s : State} {m : MethodId} {args : Array Value} {below : List Frame} {meth : Method} {c : Code} {T : State} {locs : List Loc} {cells slots : Nat} {md : Bool} {D : va_G} {tc : Nat → ClassId} {ad : Int → Nat} {A : Nat → Prop} {n : Nat} {h : AH} {H : Heap} {locs2 : List Loc}
    (X : Stand p l e R s m args below meth c T locs cells slots) (hT : T.heap = H) (hH : zH md D tc ad A s.heap n h H locs2) (hN : zN ad s n cells) : H.size = s.heap.size + cells ∧ ∀ j : Nat, ad ((n : Int) + 1 + j) = H.size + j := by
  obtain ⟨n0, e1, e2⟩ := hN
  have hup : T.heap.size ≤ s.heap.size + cells := by
    obtain ⟨-, h2, h3, h4, h5, h6⟩ := X.same
    exact h3
  have hlo : s.heap.size + cells ≤ H.size := by
    by_cases hz : cells = 0
    · rw [hz]; exact hH.2.2.1
    · have hw : (zw md ad tc n h)[n - 1]? = some (ad ((((n - 1 : Nat) : Int)) + 1), zc md ad tc h (((n - 1 : Nat) : Int) + 1) (LAY.getD (n - 1) (0, 0))) := by
        unfold zw
        rw [List.getElem?_map, List.getElem?_range (by omega)]
        rfl
      have h9 := (hH.1 _ _ hw).lt
      have e3 := e2 (cells - 1)
      have e4 : ((n0 : Int) + 1 + ((cells - 1 : Nat) : Int)) = (((n - 1 : Nat) : Int)) + 1 := by omega
      rw [e4] at e3
      have h10 : ad ((((n - 1 : Nat) : Int)) + 1) < H.size := h9
      omega
  have hs : H.size = s.heap.size + cells := by rw [hT] at hup; omega
  refine ⟨hs, fun j => ?_⟩
  have e3 := e2 (cells + j)
  rw [hs, e1]
  rw [show ((n0 : Int) + 1 + ((cells + j : Nat) : Int)) = (((n0 + cells : Nat) : Int)) + 1 + (j : Int) by omega] at e3
  rw [e3]
  omega
/-- behind a call -/
theorem z_core {Y : YD} {k : KD} {Q P : RS → Nat → AH → Prop} {b : Nat × Nat} {pc mc ms n : Nat} {ls st : List AV} {h : AH} {p : Program} {l : Launch} {e : Env} {R : Room} {s : State} {m : MethodId} {args : Array Value} {below : List Frame} {meth : Method} {cd : Code} {A : Nat → Prop} {D : va_G} {tc : Nat → ClassId} {ad : Int → Nat} {H : Heap} {locs : List Loc} {cells slots : Nat} {ls' : Array Slot} {st0 : List Value} {a : Array Value} {T : State}
    (C : zC Y k Q p l R s m args meth cd A D tc ad) (hH : zH k.md D tc ad A s.heap n h H locs) (hB : zB k b ad s n cells slots) (hl : zl ad ls Y.nL ls') (hT : T.heap = H) (X : Stand p l e R s m args below meth cd T locs cells slots)
    (hr : vx_Run p l e R s m args below meth cd H locs cells slots mc ms (F0 m pc ls' st0) (st.map (zv ad)) (zQc P k.md mc D tc ad (va_A (zw k.md ad tc n h) H.size) a) (zXc P k.md D tc ad (va_A (zw k.md ad tc n h) H.size)) (va_A (zw k.md ad tc n h) H.size))
    (hmc : mc ≤ b.1) (hms : ms ≤ b.2)
    (kk : ∀ (v : Option AV) (n' : Nat) (h' : AH), P (.inl v) n' h' → (k.md = false → n' = n + mc) → Wp Y k Q (b.1 - mc, b.2 - ms) (pc + 3) ls (v.toList ++ st) n' h')
    (kx : ∀ (E : String) (n' : Nat) (h' : AH), k.md = true → P (.inr E) n' h' → Wx Y k Q (b.1 - mc, b.2 - ms) pc ls n' h' E) :
    ∃ t, Steps p.tables e below (T.setTop (F0 m pc ls' st0)) t ∧ zFin Y k Q D tc ad A below args s t := by
  have hA := C.2.2.2.2.1
  have hfree : ∀ q, va_A (zw k.md ad tc n h) H.size q → A q := by
    intro q hq
    rcases hq with ⟨j, ee, z⟩ | z
    · exact hH.2.1.2 j (q, ee) z
    · exact hA q (Nat.le_trans hH.2.2.1 z)
  have hB1 := hB.1
  have hB2 := hB.2.1
  rcases hr T hT X with ⟨v, st₀, t, T', L, h0, X', hL, e1, e2, hQ, sg⟩ | ⟨q, st₀, t, T', L, E, ce, h0, X', hL, e1, e2, hX, hce, hcv, hcl, sg⟩
  · obtain ⟨⟨v0, n', h', hv, hP', hVP, hVD, hVN⟩, hF⟩ := hQ
    cases hv
    obtain ⟨k1, k2, k3⟩ := vx_keep h0 e1 hH.2.2 (fun q _ z => hfree q z) hfree hL hF
    have hn' : k.md = false → n' = n + mc := by
      intro z
      obtain ⟨n1, f1, f2⟩ := hVN z
      have g := (z_size X hT hH (hB.2.2 z).2).2
      rw [h0] at f2
      rcases Nat.lt_or_ge n1 n with hlt | hge
      · have a1 := f2 (n - n1)
        have a2 := g 0
        rw [show ((n1 : Int) + 1 + ((n - n1 : Nat) : Int)) = (n : Int) + 1 + ((0 : Nat) : Int) by omega] at a1
        omega
      · have a1 := g (n1 - n)
        have a2 := f2 0
        rw [show ((n : Int) + 1 + ((n1 - n : Nat) : Int)) = (n1 : Int) + 1 + ((0 : Nat) : Int) by omega] at a1
        omega
    have w := kk v0 n' h' hP' hn' p l e R s m args below meth cd A D tc ad T'.heap (locs ++ L) (cells + mc) (slots + ms) ls' C
      ⟨by rw [e1]; exact hVP, hVD.weaken (fun _ _ _ z => hfree _ z), k3⟩
      ⟨by show cells + mc + (b.1 - mc) ≤ k.mc; omega, by show slots + ms + (b.2 - ms) ≤ k.ms; omega, fun z => by
        obtain ⟨z1, n0, z2, z3⟩ := hB.2.2 z
        exact ⟨by show cells + mc + (b.1 - mc) = k.mc; omega, n0, by rw [hn' z, z2]; omega, z3⟩⟩ hl
    obtain ⟨t2, a1, b1⟩ := w T' rfl X'
    refine ⟨t2, sg t2 ?_, b1⟩
    have es : (v0.toList ++ st).map (zv ad) = (v0.map (zv ad)).toList ++ st.map (zv ad) := by cases v0 <;> simp
    rw [es] at a1
    exact a1
  · obtain ⟨⟨n', h', hmd, hP', hVP, hVD⟩, hF⟩ := hX
    obtain ⟨k1, k2, k3⟩ := vx_keep h0 e1 hH.2.2 (fun q _ z => hfree q z) hfree hL hF
    have w := kx E n' h' hmd hP' p l e R s m args below meth cd A D tc ad T'.heap (locs ++ L) (cells + mc) (slots + ms) ls' (st.map (zv ad)) q ce C
      ⟨by rw [e1]; exact hVP, hVD.weaken (fun _ _ _ z => hfree _ z), k3⟩
      ⟨by show cells + mc + (b.1 - mc) ≤ k.mc; omega, by show slots + ms + (b.2 - ms) ≤ k.ms; omega, fun z => by rw [hmd] at z; cases z⟩ hl (by rw [e1]; exact hce) hcv hcl
    obtain ⟨t2, a1, b1⟩ := w T' rfl X'
    exact ⟨t2, sg.trans a1, b1⟩
theorem gw_good {L : List Cond} (h : ∀ w ∈ L, w ∈ GW) : GoodIn GW L := fun w hw => ⟨h w hw, good_of_word (List.mem_filter.mp (h w hw)).2⟩
/-- the words of a call: to Y' by number idx of own's pool, na parameters -/
def LkB (own : String) (idx : Nat) (Y' : YD) (na : Nat) : Prop := Cond.methodLink own idx Y'.nm ∈ GW ∧ Cond.initialized Y'.nm.cls ∈ GW ∧ yw Y' ∈ GW ∧ (Y'.nm.cls ≠ "java/lang/invoke/MethodHandle" ∧ Y'.nm.cls ≠ "java/lang/invoke/VarHandle" ∧ (parseMethodDescriptor Y'.nm.desc).map (fun d => d.parameters.length) = some na) ∧ Y'.nL ≤ 41
def LkV (own : String) (idx : Nat) (Y' : YD) (na : Nat) : Prop := LkB own idx Y' na ∧ Cond.instanceMethod Y'.nm ∈ GW ∧ Cond.selects Y'.nm.cls Y'.nm Y'.nm ∈ GW
def LkS (own : String) (idx : Nat) (Y' : YD) (na : Nat) : Prop := LkB own idx Y' na ∧ Cond.static Y'.nm ∈ GW
/-- o is an object of the class that is so called -/
def isA (n : Nat) (o : Int) (C : String) : Prop := ∃ (ci N : Nat) (T : u_T), cel n o (ci, N) ∧ vwCl[ci]? = some (C, T, N) ∧ ci < 100
section RulesF
variable {Y : YD} {k : KD} {Q : RS → Nat → AH → Prop} {b : Nat × Nat} {pc : Nat} {ls st : List AV} {n : Nat} {h : AH}

theorem s_callV {Y' : YD} {P : RS → Nat → AH → Prop} {fr mc ms idx na : Nat} {as stk : List AV} {o : Int} (hd : decode Y.cd pc = .ok (.invokevirtual idx, 3)) (hL : LkV Y.own idx Y' na) (hex : Y'.exc = []) (ho : isA n o Y'.nm.cls) (hs : stk = as.reverse ++ zR o :: st) (hna : as.length = na) (hst8 : (st.map zcat).sum ≤ 8) (hS : Sp Y' k.md fr mc ms (zR o :: as) n h P) (hfr : fr + 1 ≤ k.fr) (hmc : mc ≤ b.1) (hms : ms ≤ b.2)
    (kk : ∀ (v : Option AV) (n' : Nat) (h' : AH), P (.inl v) n' h' → (k.md = false → n' = n + mc) → Wp Y k Q (b.1 - mc, b.2 - ms) (pc + 3) ls (v.toList ++ st) n' h')
    (kx : ∀ (E : String) (n' : Nat) (h' : AH), k.md = true → P (.inr E) n' h' → Wx Y k Q (b.1 - mc, b.2 - ms) pc ls n' h' E) : Wp Y k Q b pc ls stk n h := by
  intro p l e R s m args below meth cd A D tc ad H locs cells slots ls' C hH hB hl
  have C0 := C
  obtain ⟨⟨hx, hb, hml, hr, hlk⟩, hown, hts, hK, hA, hR, hst, hE, hin, hexc, hlaw⟩ := C0
  intro T hT X
  obtain ⟨⟨q1, q2, q3, q4, q5⟩, q6, q7⟩ := hL
  obtain ⟨ci, N, Tt, c1, c2, c3⟩ := ho
  have e1 : yw Y' = .code Y'.nm Y'.cd Y'.nL Y'.ret := by unfold yw; rw [if_pos hex]
  have hM := hS l D tc ad H.size hst
  rw [e1] at hM q3
  have hg := zw_get (md := k.md) (ad := ad) (tc := tc) (h := h) c1
  rw [zc_obj c3] at hg
  have ho0 : o ≠ 0 := by have := c1.1; omega
  have cw : CallW R s args Y.own Y'.nm.cls idx Y'.nm Y'.cd Y'.nL Y'.ret (Cond.code Y'.nm Y'.cd Y'.nL Y'.ret :: GW) (zRm fr mc ms) mc ms na := by
    refine cwV na hts (gw_good ?_) rfl rfl rfl ⟨rfl, q4.1, q4.2.1, q4.2.2⟩ ⟨Nat.le_trans hfr hR.1, ?_⟩
    · intro w hw
      rcases List.mem_append.mp hw with hw | hw
      · simp only [List.mem_cons, List.not_mem_nil, or_false] at hw
        rcases hw with rfl | rfl | rfl | rfl
        · exact q1
        · exact q6
        · exact q7
        · exact q2
      · rcases List.mem_cons.mp hw with rfl | hw
        · exact q3
        · exact hw
    · show 8 + (Y'.nL + 11) + 60 * fr ≤ R.locals
      have := hR.2.1
      have : 60 * (fr + 1) ≤ 60 * k.fr := Nat.mul_le_mul_left 60 hfr
      omega
  have hN : k.md = false → ∀ j : Nat, ad ((n : Int) + 1 + j) = H.size + j := fun z => (z_size X hT hH (hB.2.2 z).2).2
  have hB1 := hB.1
  have hB2 := hB.2.1
  have hp : PreV s H Y'.nm.cls (ad o) (zPc k.md D tc ad H.size n h (zR o :: as)) (as.map (zv ad)) := ⟨z_blind, va_recv hK hH.1 c2 hg, fun U hU hW => by
    have := z_pre (as := zR o :: as) hK hA hE hH hN U hU hW
    rw [List.map_cons, zv_ref ho0] at this
    exact this⟩
  have hrun : vx_Run p l e R s m args below meth cd H locs cells slots mc ms (F0 m pc ls' (stk.map (zv ad))) (st.map (zv ad)) (zQc P k.md mc D tc ad (va_A (zw k.md ad tc n h) H.size) (Value.ref (ad o) :: as.map (zv ad)).toArray) (zXc P k.md D tc ad (va_A (zw k.md ad tc n h) H.size)) (va_A (zw k.md ad tc n h) H.size) := vx_runV (g := F0 m pc ls' (stk.map (zv ad))) (As := as.map (zv ad)) (rest := st.map (zv ad)) ⟨hx, hb, hml, hown, hts⟩ hM cw hp rfl (by rw [List.length_map]; exact hna) hl.1 (by rw [hs]; simp [zv_ref ho0]) (lv_room (by rw [zv_cats]; exact hst8)) hd ⟨by have := hR.2.2.1; omega, by have := hR.2.2.2; omega⟩
  exact z_core C hH hB hl hT X hrun hmc hms kk kx
theorem s_callS {Y' : YD} {P : RS → Nat → AH → Prop} {fr mc ms idx na : Nat} {as stk : List AV} (hd : decode Y.cd pc = .ok (.invokestatic idx, 3)) (hL : LkS Y.own idx Y' na) (hs : stk = as.reverse ++ st) (hna : as.length = na) (hst8 : (st.map zcat).sum ≤ 8) (hS : Sp Y' k.md fr mc ms as n h P) (hfr : fr + 1 ≤ k.fr) (hmc : mc ≤ b.1) (hms : ms ≤ b.2)
    (kk : ∀ (v : Option AV) (n' : Nat) (h' : AH), P (.inl v) n' h' → (k.md = false → n' = n + mc) → Wp Y k Q (b.1 - mc, b.2 - ms) (pc + 3) ls (v.toList ++ st) n' h')
    (kx : ∀ (E : String) (n' : Nat) (h' : AH), k.md = true → P (.inr E) n' h' → Wx Y k Q (b.1 - mc, b.2 - ms) pc ls n' h' E) : Wp Y k Q b pc ls stk n h := by
  intro p l e R s m args below meth cd A D tc ad H locs cells slots ls' C hH hB hl
  have C0 := C
  obtain ⟨⟨hx, hb, hml, hr, hlk⟩, hown, hts, hK, hA, hR, hst, hE, hin, hexc, hlaw⟩ := C0
  intro T hT X
  obtain ⟨⟨q1, q2, q3, q4, q5⟩, q6⟩ := hL
  have hM := hS l D tc ad H.size hst
  have hlo : 8 + (Y'.nL + 11) + 60 * fr ≤ R.locals := by
    have := hR.2.1
    have : 60 * (fr + 1) ≤ 60 * k.fr := Nat.mul_le_mul_left 60 hfr
    omega
  have hN : k.md = false → ∀ j : Nat, ad ((n : Int) + 1 + j) = H.size + j := fun z => (z_size X hT hH (hB.2.2 z).2).2
  have hB1 := hB.1
  have hB2 := hB.2.1
  have hp : PreS s H (zPc k.md D tc ad H.size n h as) (as.map (zv ad)) := ⟨z_blind, fun U hU hW => z_pre (as := as) hK hA hE hH hN U hU hW⟩
  have hG : ∀ w ∈ va_wsS Y.own idx Y'.nm (yw Y' :: GW), w ∈ GW := by
    intro w hw
    rcases List.mem_append.mp hw with hw | hw
    · simp only [List.mem_cons, List.not_mem_nil, or_false] at hw
      rcases hw with rfl | rfl | rfl
      · exact q1
      · exact q6
      · exact q2
    · rcases List.mem_cons.mp hw with rfl | hw
      · exact q3
      · exact hw
  have hrun : vx_Run p l e R s m args below meth cd H locs cells slots mc ms (F0 m pc ls' (stk.map (zv ad))) (st.map (zv ad)) (zQc P k.md mc D tc ad (va_A (zw k.md ad tc n h) H.size) (as.map (zv ad)).toArray) (zXc P k.md D tc ad (va_A (zw k.md ad tc n h) H.size)) (va_A (zw k.md ad tc n h) H.size) := by
    by_cases hex : Y'.exc = []
    · have e1 : yw Y' = .code Y'.nm Y'.cd Y'.nL Y'.ret := by unfold yw; rw [if_pos hex]
      rw [e1] at hM hG
      exact vx_runS (g := F0 m pc ls' (stk.map (zv ad))) (As := as.map (zv ad)) (rest := st.map (zv ad)) ⟨hx, hb, hml, hown, hts⟩ hM (va_cwS na hts (gw_good hG) rfl rfl rfl q4 ⟨Nat.le_trans hfr hR.1, hlo⟩) hp rfl (by rw [List.length_map]; exact hna) hl.1 (by rw [hs]; simp) (lv_room (by rw [zv_cats]; exact hst8)) hd ⟨by have := hR.2.2.1; omega, by have := hR.2.2.2; omega⟩
    · have e1 : yw Y' = .codeWith Y'.nm Y'.cd Y'.nL Y'.ret Y'.exc := by unfold yw; rw [if_neg hex]
      rw [e1] at hM hG
      exact vx_runSX (g := F0 m pc ls' (stk.map (zv ad))) (As := as.map (zv ad)) (rest := st.map (zv ad)) ⟨hx, hb, hml, hown, hts⟩ hM (vx_cwSW na hts (gw_good hG) rfl rfl rfl q4 ⟨Nat.le_trans hfr hR.1, hlo⟩) hp rfl (by rw [List.length_map]; exact hna) hl.1 (by rw [hs]; simp) (lv_room (by rw [zv_cats]; exact hst8)) hd ⟨by have := hR.2.2.1; omega, by have := hR.2.2.2; omega⟩
  exact z_core C hH hB hl hT X hrun hmc hms kk kx

end RulesF
