/-! ===== more calls: constructors, nest mates; makings; ends ===== -/
/-- a contract that never throws -/
theorem met_of {l : Launch} {y : MethodName} {ws : List Cond} {rm : Room} {Pc : Array Value → State → Prop} {Qc : Array Value → State → Outcome → State → Prop} {XC : String → State → State → Prop} {mc ms : Nat} {free : Addr → Prop} (hM : vx_Met l y ws rm Pc Qc XC mc ms free) (hno : ∀ E s t, ¬ XC E s t) : Met l y ws rm Pc Qc mc ms free := by
  refine MetFree.mono hM (fun _ _ z => z) (fun _ _ _ _ _ z => z) (fun a s o s' _ z => ?_)
  rcases z with z | ⟨q, -, E, ce, L, z, -⟩
  · exact z
  · exact (hno _ _ _ z).elim
theorem run_of {p : Program} {l : Launch} {e : Env} {R : Room} {s : State} {m : MethodId} {args : Array Value} {below : List Frame} {meth : Method} {c : Code} {H : Heap} {locs : List Loc} {cells slots mc ms : Nat} {g : JFrame} {rest : List Value} {Qa : State → Outcome → State → Prop} {XC : String → State → State → Prop} {free : Addr → Prop} (h : va_Run p l e R s m args below meth c H locs cells slots mc ms g rest Qa free) : vx_Run p l e R s m args below meth c H locs cells slots mc ms g rest Qa XC free := fun T hT X => Or.inl (h T hT X)
section RulesG
variable {Y : YD} {k : KD} {Q : RS → Nat → AH → Prop} {b : Nat × Nat} {pc : Nat} {ls st : List AV} {n : Nat} {h : AH}

theorem s_callI {Y' : YD} {P : RS → Nat → AH → Prop} {fr mc ms idx na : Nat} {as stk : List AV} {o : Int} (hd : decode Y.cd pc = .ok (.invokespecial idx, 3)) (hL : LkB Y.own idx Y' na) (hini : Y'.nm.name = "<init>") (hw : Cond.instanceMethod Y'.nm ∈ GW) (hret : Y'.ret = none) (hex : Y'.exc = []) (ho : o ≠ 0) (hs : stk = as.reverse ++ zR o :: st) (hna : as.length = na) (hst8 : (st.map zcat).sum ≤ 8) (hS : Sp Y' k.md fr mc ms (zR o :: as) n h P) (hnt : ∀ E n' h', ¬ P (.inr E) n' h') (hfr : fr + 1 ≤ k.fr) (hmc : mc ≤ b.1) (hms : ms ≤ b.2) (kk : ∀ (v : Option AV) (n' : Nat) (h' : AH), P (.inl v) n' h' → (k.md = false → n' = n + mc) → Wp Y k Q (b.1 - mc, b.2 - ms) (pc + 3) ls (v.toList ++ st) n' h') : Wp Y k Q b pc ls stk n h := by
  intro p l e R s m args below meth cd A D tc ad H locs cells slots ls' C hH hB hl
  have C0 := C
  obtain ⟨⟨hx, hb, hml, hr, hlk⟩, hown, hts, hK, hA, hR, hst, hE, hin, hexc, hlaw⟩ := C0
  intro T hT X
  obtain ⟨q1, q2, q3, q4, q5⟩ := hL
  have hN : k.md = false → ∀ j : Nat, ad ((n : Int) + 1 + j) = H.size + j := fun z => (z_size X hT hH (hB.2.2 z).2).2
  have hB1 := hB.1
  have hB2 := hB.2.1
  have hlo : 8 + (Y'.nL + 11) + 60 * fr ≤ R.locals := by
    have := hR.2.1
    have : 60 * (fr + 1) ≤ 60 * k.fr := Nat.mul_le_mul_left 60 hfr
    omega
  have e1 : yw Y' = .code Y'.nm Y'.cd Y'.nL Y'.ret := by unfold yw; rw [if_pos hex]
  have hM0 := hS l D tc ad H.size hst
  rw [e1] at hM0 q3
  have hM : Met l Y'.nm (Cond.code Y'.nm Y'.cd Y'.nL Y'.ret :: GW) (zRm fr mc ms) (zPc k.md D tc ad H.size n h (zR o :: as)) (zQc P k.md mc D tc ad (va_A (zw k.md ad tc n h) H.size)) mc ms (va_A (zw k.md ad tc n h) H.size) := met_of hM0 (fun E s t z => by obtain ⟨⟨n', h', -, z, -⟩, -⟩ := z; exact hnt _ _ _ z)
  rw [hret] at hM q3
  have hp : PreS s H (zPc k.md D tc ad H.size n h (zR o :: as)) (Value.ref (ad o) :: as.map (zv ad)) := ⟨z_blind, fun U hU hW => by
    have := z_pre (as := zR o :: as) hK hA hE hH hN U hU hW
    rw [List.map_cons, zv_ref ho] at this
    exact this⟩
  have hG : ∀ w ∈ Cond.code Y'.nm Y'.cd Y'.nL none :: GW, w ∈ GW := by
    intro w hw
    rcases List.mem_cons.mp hw with rfl | hw
    · exact q3
    · exact hw
  have hrun : va_Run p l e R s m args below meth cd H locs cells slots mc ms (F0 m pc ls' (stk.map (zv ad))) (st.map (zv ad)) (zQc P k.md mc D tc ad (va_A (zw k.md ad tc n h) H.size) (Value.ref (ad o) :: as.map (zv ad)).toArray) (va_A (zw k.md ad tc n h) H.size) :=
    va_runI (g := F0 m pc ls' (stk.map (zv ad))) (As := as.map (zv ad)) (rest := st.map (zv ad)) ⟨hx, hb, hml, hown, hts⟩ hM (cwI na hts (gw_good hG) rfl rfl rfl (hts _ q2) (hts _ q1) (hts _ hw) hini q4 ⟨Nat.le_trans hfr hR.1, hlo⟩) hp rfl (by rw [List.length_map]; exact hna) hl.1 (by rw [hs]; simp [zv_ref ho]) (lv_room (by rw [zv_cats]; exact hst8)) hd ⟨by have := hR.2.2.1; omega, by have := hR.2.2.2; omega⟩
  exact z_core C hH hB hl hT X (run_of hrun) hmc hms kk (fun E n' h' _ z => (hnt _ _ _ z).elim)
theorem s_callIN {Y' : YD} {P : RS → Nat → AH → Prop} {fr mc ms idx na : Nat} {host : String} {as stk : List AV} {o : Int} (hd : decode Y.cd pc = .ok (.invokespecial idx, 3)) (hnest : (Y.own, idx, Y'.nm, host) ∈ zNest) (hL : Cond.initialized Y'.nm.cls ∈ GW ∧ yw Y' ∈ GW ∧ (Y'.nm.cls ≠ "java/lang/invoke/MethodHandle" ∧ Y'.nm.cls ≠ "java/lang/invoke/VarHandle" ∧ (parseMethodDescriptor Y'.nm.desc).map (fun d => d.parameters.length) = some na) ∧ Y'.nL ≤ 41) (hini : Y'.nm.name = "<init>") (hw : Cond.instanceMethod Y'.nm ∈ GW) (hret : Y'.ret = none) (hex : Y'.exc = []) (ho : o ≠ 0) (hs : stk = as.reverse ++ zR o :: st) (hna : as.length = na) (hst8 : (st.map zcat).sum ≤ 8) (hS : Sp Y' k.md fr mc ms (zR o :: as) n h P) (hnt : ∀ E n' h', ¬ P (.inr E) n' h') (hfr : fr + 1 ≤ k.fr) (hmc : mc ≤ b.1) (hms : ms ≤ b.2) (kk : ∀ (v : Option AV) (n' : Nat) (h' : AH), P (.inl v) n' h' → (k.md = false → n' = n + mc) → Wp Y k Q (b.1 - mc, b.2 - ms) (pc + 3) ls (v.toList ++ st) n' h') : Wp Y k Q b pc ls stk n h := by
  intro p l e R s m args below meth cd A D tc ad H locs cells slots ls' C hH hB hl
  have C0 := C
  obtain ⟨⟨hx, hb, hml, hr, hlk⟩, hown, hts, hK, hA, hR, hst, hE, hin, hexc, hlaw⟩ := C0
  intro T hT X
  obtain ⟨q2, q3, q4, q5⟩ := hL
  have hN : k.md = false → ∀ j : Nat, ad ((n : Int) + 1 + j) = H.size + j := fun z => (z_size X hT hH (hB.2.2 z).2).2
  have hB1 := hB.1
  have hB2 := hB.2.1
  have hlo : 8 + (Y'.nL + 11) + 60 * fr ≤ R.locals := by
    have := hR.2.1
    have : 60 * (fr + 1) ≤ 60 * k.fr := Nat.mul_le_mul_left 60 hfr
    omega
  have e1 : yw Y' = .code Y'.nm Y'.cd Y'.nL Y'.ret := by unfold yw; rw [if_pos hex]
  have hM0 := hS l D tc ad H.size hst
  rw [e1] at hM0 q3
  have hM : Met l Y'.nm (Cond.code Y'.nm Y'.cd Y'.nL Y'.ret :: GW) (zRm fr mc ms) (zPc k.md D tc ad H.size n h (zR o :: as)) (zQc P k.md mc D tc ad (va_A (zw k.md ad tc n h) H.size)) mc ms (va_A (zw k.md ad tc n h) H.size) := met_of hM0 (fun E s t z => by obtain ⟨⟨n', h', -, z, -⟩, -⟩ := z; exact hnt _ _ _ z)
  rw [hret] at hM q3
  have hp : PreS s H (zPc k.md D tc ad H.size n h (zR o :: as)) (Value.ref (ad o) :: as.map (zv ad)) := ⟨z_blind, fun U hU hW => by
    have := z_pre (as := zR o :: as) hK hA hE hH hN U hU hW
    rw [List.map_cons, zv_ref ho] at this
    exact this⟩
  have hG : ∀ w ∈ Cond.code Y'.nm Y'.cd Y'.nL none :: GW, w ∈ GW := by
    intro w hw
    rcases List.mem_cons.mp hw with rfl | hw
    · exact q3
    · exact hw
  have hrun : va_Run p l e R s m args below meth cd H locs cells slots mc ms (F0 m pc ls' (stk.map (zv ad))) (st.map (zv ad)) (zQc P k.md mc D tc ad (va_A (zw k.md ad tc n h) H.size) (Value.ref (ad o) :: as.map (zv ad)).toArray) (va_A (zw k.md ad tc n h) H.size) :=
    va_runIN (g := F0 m pc ls' (stk.map (zv ad))) (As := as.map (zv ad)) (rest := st.map (zv ad)) ⟨hx, hb, hml, hown, hts⟩ hM ⟨va_cnB na hts (gw_good hG) rfl rfl rfl (hE.1 _ hnest) (hts _ q2) q4 ⟨Nat.le_trans hfr hR.1, hlo⟩, hini, hts _ hw⟩ hp rfl (by rw [List.length_map]; exact hna) hl.1 (by rw [hs]; simp [zv_ref ho]) (lv_room (by rw [zv_cats]; exact hst8)) hd ⟨by have := hR.2.2.1; omega, by have := hR.2.2.2; omega⟩
  exact z_core C hH hB hl hT X (run_of hrun) hmc hms kk (fun E n' h' _ z => (hnt _ _ _ z).elim)
theorem s_callSN {Y' : YD} {P : RS → Nat → AH → Prop} {fr mc ms idx na : Nat} {host : String} {as stk : List AV} (hd : decode Y.cd pc = .ok (.invokestatic idx, 3)) (hnest : (Y.own, idx, Y'.nm, host) ∈ zNest) (hL : Cond.initialized Y'.nm.cls ∈ GW ∧ yw Y' ∈ GW ∧ (Y'.nm.cls ≠ "java/lang/invoke/MethodHandle" ∧ Y'.nm.cls ≠ "java/lang/invoke/VarHandle" ∧ (parseMethodDescriptor Y'.nm.desc).map (fun d => d.parameters.length) = some na) ∧ Y'.nL ≤ 41) (hw : Cond.static Y'.nm ∈ GW) (hex : Y'.exc = []) (hs : stk = as.reverse ++ st) (hna : as.length = na) (hst8 : (st.map zcat).sum ≤ 8) (hS : Sp Y' k.md fr mc ms as n h P) (hnt : ∀ E n' h', ¬ P (.inr E) n' h') (hfr : fr + 1 ≤ k.fr) (hmc : mc ≤ b.1) (hms : ms ≤ b.2) (kk : ∀ (v : Option AV) (n' : Nat) (h' : AH), P (.inl v) n' h' → (k.md = false → n' = n + mc) → Wp Y k Q (b.1 - mc, b.2 - ms) (pc + 3) ls (v.toList ++ st) n' h') : Wp Y k Q b pc ls stk n h := by
  intro p l e R s m args below meth cd A D tc ad H locs cells slots ls' C hH hB hl
  have C0 := C
  obtain ⟨⟨hx, hb, hml, hr, hlk⟩, hown, hts, hK, hA, hR, hst, hE, hin, hexc, hlaw⟩ := C0
  intro T hT X
  obtain ⟨q2, q3, q4, q5⟩ := hL
  have hN : k.md = false → ∀ j : Nat, ad ((n : Int) + 1 + j) = H.size + j := fun z => (z_size X hT hH (hB.2.2 z).2).2
  have hB1 := hB.1
  have hB2 := hB.2.1
  have hlo : 8 + (Y'.nL + 11) + 60 * fr ≤ R.locals := by
    have := hR.2.1
    have : 60 * (fr + 1) ≤ 60 * k.fr := Nat.mul_le_mul_left 60 hfr
    omega
  have e1 : yw Y' = .code Y'.nm Y'.cd Y'.nL Y'.ret := by unfold yw; rw [if_pos hex]
  have hM0 := hS l D tc ad H.size hst
  rw [e1] at hM0 q3
  have hM : Met l Y'.nm (Cond.code Y'.nm Y'.cd Y'.nL Y'.ret :: GW) (zRm fr mc ms) (zPc k.md D tc ad H.size n h (as)) (zQc P k.md mc D tc ad (va_A (zw k.md ad tc n h) H.size)) mc ms (va_A (zw k.md ad tc n h) H.size) := met_of hM0 (fun E s t z => by obtain ⟨⟨n', h', -, z, -⟩, -⟩ := z; exact hnt _ _ _ z)
  have hp : PreS s H (zPc k.md D tc ad H.size n h as) (as.map (zv ad)) := ⟨z_blind, fun U hU hW => z_pre (as := as) hK hA hE hH hN U hU hW⟩
  have hG : ∀ w ∈ Cond.code Y'.nm Y'.cd Y'.nL Y'.ret :: GW, w ∈ GW := by
    intro w hw
    rcases List.mem_cons.mp hw with rfl | hw
    · exact q3
    · exact hw
  have hrun : va_Run p l e R s m args below meth cd H locs cells slots mc ms (F0 m pc ls' (stk.map (zv ad))) (st.map (zv ad)) (zQc P k.md mc D tc ad (va_A (zw k.md ad tc n h) H.size) (as.map (zv ad)).toArray) (va_A (zw k.md ad tc n h) H.size) :=
    va_runSN (g := F0 m pc ls' (stk.map (zv ad))) (As := as.map (zv ad)) (rest := st.map (zv ad)) ⟨hx, hb, hml, hown, hts⟩ hM ⟨va_cnB na hts (gw_good hG) rfl rfl rfl (hE.1 _ hnest) (hts _ q2) q4 ⟨Nat.le_trans hfr hR.1, hlo⟩, hts _ hw, trivial⟩ hp rfl (by rw [List.length_map]; exact hna) hl.1 (by rw [hs]; simp) (lv_room (by rw [zv_cats]; exact hst8)) hd ⟨by have := hR.2.2.1; omega, by have := hR.2.2.2; omega⟩
  exact z_core C hH hB hl hT X (run_of hrun) hmc hms kk (fun E n' h' _ z => (hnt _ _ _ z).elim)
theorem s_objInit {idx : Nat} {o : Int} (hd : decode Y.cd pc = .ok (.invokespecial idx, 3)) (hw1 : Cond.methodLink Y.own idx objectInit ∈ GW) (hw2 : Cond.instanceMethod objectInit ∈ GW) (hw3 : Cond.code objectInit ⟨#[0xb1]⟩ 1 none ∈ GW) (ho : o ≠ 0) (hfr : 1 ≤ k.fr) (hst8 : (st.map zcat).sum ≤ 8) (kk : Wp Y k Q b (pc + 3) ls st n h) : Wp Y k Q b pc ls (zR o :: st) n h := by
  intro p l e R s m args below meth cd A D tc ad H locs cells slots ls' C hH hB hl
  have C0 := C
  obtain ⟨⟨hx, hb, hml, hr, hlk⟩, hown, hts, hK, hA, hR, hst, hE, hin, hexc, hlaw⟩ := C0
  rw [List.map_cons, zv_ref ho]
  refine W.objInit hx hb hown (hts _ hw1) (hts _ hw2) (hts _ hw3) rfl (by rw [hml]; exact hl.1) rfl hd (Nat.le_trans hfr hR.1) ?_ (kk p l e R s m args below meth cd A D tc ad H locs cells slots ls' C hH hB hl)
  have h9 := lv_room (m := m) (pc := pc) (ls := ls') (rest := Value.ref (ad o) :: st.map (zv ad)) (st := st.map (zv ad)) (by rw [zv_cats]; exact hst8)
  have := hR.2.1
  have : 60 * 1 ≤ 60 * k.fr := Nat.mul_le_mul_left 60 hfr
  omega
def Nk (own : String) (idx ci N : Nat) : Prop := ∃ (C : String) (T : u_T) (ty : Nat → FieldType), CI ci N C T ty ∧ Cond.classLink own idx C ∈ GW ∧ Cond.instantiable C N ∈ GW ∧ Cond.initialized C ∈ GW
theorem tk_default {q : Nat × Int} {ty : FieldType} {fin : Bool} {ad : Int → Nat} {h : AH} {c : Int} {kf : Nat} (ht : tkb (some q) ty fin = true) (hz : h c kf = 0) : defaultValue ty = zf false ad h c kf q := by
  obtain ⟨t, off⟩ := q
  unfold zf
  rw [hz]
  match t, ht with
  | 0, ht => simp [tkb] at ht; rw [ht.1]; rfl
  | 1, ht => simp [tkb] at ht; rw [ht.1]; rfl
  | 2, ht => simp [tkb] at ht; rw [ht.1]; rfl
  | 3, ht => simp [tkb] at ht; cases ty <;> first | rfl | (cases ht.1)
  | 4, ht => simp [tkb] at ht; cases ty <;> first | rfl | (cases ht.1)
  | t + 5, ht => simp [tkb] at ht
theorem s_new {idx ci N : Nat} (hd : decode Y.cd pc = .ok (.new idx, 3)) (hf : Nk Y.own idx ci N) (hlay : LAY[n]? = some (ci, N)) (hmd : k.md = false) (hz : ∀ i : Int, h ((n : Int) + 1) i = 0) (hb1 : 1 ≤ b.1) (hb2 : N ≤ b.2) (kk : Wp Y k Q (b.1 - 1, b.2 - N) (pc + 3) ls (zR ((n : Int) + 1) :: st) (n + 1) h) : Wp Y k Q b pc ls st n h := by
  intro p l e R s m args below meth cd A D tc ad H locs cells slots ls' C hH hB hl
  have C0 := C
  obtain ⟨⟨hx, hb, hml, hr, hlk⟩, hown, hts, hK, hA, hR, hst, hE, hin, hexc, hlaw⟩ := C0
  intro T hT X
  obtain ⟨C1, T1, ty1, ⟨hcl, hinT, hty, hnm, hlen, hlt, htk⟩, w1, w2, w3⟩ := hf
  have hB1 := hB.1
  have hB2 := hB.2.1
  obtain ⟨sz1, sz2⟩ := z_size X hT hH (hB.2.2 hmd).2
  have ha : ad ((n : Int) + 1) = H.size := by have := sz2 0; simpa using this
  have hKn := hK.1 ci _ hcl
  have main : W p l e R s m args below meth cd H locs cells slots (zFin Y k Q D tc ad A below args s) (F0 m pc ls' (st.map (zv ad))) := by
    refine W.newcK hx hb hown (hts _ w1) (hts _ w2) (hts _ w3) rfl hd (by have := hR.2.2.1; omega) (by have := hR.2.2.2; omega) hKn.2.1 rfl fun H1 kC hkC f1 z1 o1 => ?_
    have hk : ∀ (j : Nat) (x : Nat × va_E), (zw k.md ad tc n h)[j]? = some x → H1[x.1]? = H[x.1]? := fun j x hx => o1 x.1 ((hH.1 j x hx).lt)
    have hP1 : va_P D vwCl (zw k.md ad tc (n + 1) h) H1 := by
      rw [← zw_push hlay]
      refine (hH.1.kept hk).app (fun j x hx => ?_)
      have hz9 : j < 1 := (List.getElem?_eq_some_iff.mp hx).1
      rw [show j = 0 by omega] at hx
      cases hx
      rw [zc_obj hlt, ha]
      refine ⟨_, hcl, (u_born ty1 hts hinT hKn hkC f1 hty).to ?_⟩
      intro j hj
      have tk := htk j hj
      have hj2 : j < (FT.getD ci []).length := by rw [hlen]; exact hj
      rw [List.getElem?_eq_getElem hj2] at tk
      rw [hmd]
      unfold vp_V
      rw [List.getD_eq_getElem?_getD, zfs_get (List.getElem?_eq_getElem hj2)]
      exact tk_default tk (hz j)
    have hD1 : va_D A (zw k.md ad tc (n + 1) h) := by
      rw [← zw_push hlay]
      exact hH.2.1.push hH.1 ha (hA _ (by rw [ha]; exact hH.2.2.1))
    have q := kk p l e R s m args below meth cd A D tc ad H1 locs (cells + 1) (slots + N) ls' C
      ⟨hP1, hD1, Nat.le_trans hH.2.2.1 (by omega), fun x h1 h2 => (o1 x (Nat.lt_of_lt_of_le h1 hH.2.2.1)).trans (hH.2.2.2.1 x h1 h2), hH.2.2.2.2⟩
      ⟨by show cells + 1 + (b.1 - 1) ≤ k.mc; omega, by show slots + N + (b.2 - N) ≤ k.ms; omega, fun z => by
        obtain ⟨z1, n0, z2, z3⟩ := hB.2.2 z
        exact ⟨by show cells + 1 + (b.1 - 1) = k.mc; omega, n0, by omega, z3⟩⟩ hl
    rw [List.map_cons, zv_ref (by omega), ha] at q
    exact q
  exact main T hT X
theorem s_newarr {N K : Nat} {x : Int} {at_ : ArrayType} {t0 : Nat} (hd : decode Y.cd pc = .ok (.newarray at_, 2)) (hw : Cond.arrayClass (newarray.typeOf at_) ∈ GW) (hty : (at_ = .int ∧ K = 100) ∨ (at_ = .byte ∧ K = 101) ∨ (at_ = .boolean ∧ K = 102) ∨ (at_ = .long ∧ K = 103)) (hxN : x = N) (hlay : LAY[n]? = some (K, N)) (hmd : k.md = false) (hz : ∀ i : Int, h ((n : Int) + 1) i = 0) (hb1 : 1 ≤ b.1) (hb2 : N ≤ b.2) (kk : Wp Y k Q (b.1 - 1, b.2 - N) (pc + 2) ls (zR ((n : Int) + 1) :: st) (n + 1) h) : Wp Y k Q b pc ls (zI x :: st) n h := by
  intro p l e R s m args below meth cd A D tc ad H locs cells slots ls' C hH hB hl
  have C0 := C
  obtain ⟨⟨hx, hb, hml, hr, hlk⟩, hown, hts, hK, hA, hR, hst, hE, hin, hexc, hlaw⟩ := C0
  intro T hT X
  have hB1 := hB.1
  have hB2 := hB.2.1
  have hN4 : N < 4000 := lay_small _ (List.mem_of_getElem? hlay)
  obtain ⟨sz1, sz2⟩ := z_size X hT hH (hB.2.2 hmd).2
  have ha : ad ((n : Int) + 1) = H.size := by have := sz2 0; simpa using this
  have main : W p l e R s m args below meth cd H locs cells slots (zFin Y k Q D tc ad A below args s) (F0 m pc ls' ((zI x :: st).map (zv ad))) := by
    refine va_newaK (n := Int32.ofInt x) (N := N) hx hb (hts _ hw) rfl hd rfl ?_ ?_ ?_ (by have := hR.2.2.1; omega) (by have := hR.2.2.2; omega) rfl fun H1 cA f1 z1 o1 hAr hNm => ?_
    · intro z
      have := (i32lt (x := x) (y := 0) ⟨by omega, by omega⟩ R32_0).mp z
      omega
    · rw [ixi (by omega) (by omega)]; omega
    · rcases hty with ⟨rfl, -⟩ | ⟨rfl, -⟩ | ⟨rfl, -⟩ | ⟨rfl, -⟩
      · show N * 4 ≤ 536870912; omega
      · show N * 1 ≤ 536870912; omega
      · show N * 1 ≤ 536870912; omega
      · show N * 8 ≤ 536870912; omega
    have hk : ∀ (j : Nat) (x : Nat × va_E), (zw k.md ad tc n h)[j]? = some x → H1[x.1]? = H[x.1]? := fun j x hx => o1 x.1 ((hH.1 j x hx).lt)
    have hcell : va_at D vwCl (ad ((n : Int) + 1), zc k.md ad tc h ((n : Int) + 1) (K, N)) H1 := by
      rcases hty with ⟨rfl, rfl⟩ | ⟨rfl, rfl⟩ | ⟨rfl, rfl⟩ | ⟨rfl, rfl⟩
      · have h9 : cA = tc 0 := Option.some.inj (hNm.symm.trans (hK.2 0 _ rfl).2)
        subst h9
        rw [zc_int, ha]
        show H1[H.size]? = some (vp_cell _ _)
        rw [f1, vp_cell_i]
        simp only [hz]
        rfl
      · have h9 : cA = tc 1 := Option.some.inj (hNm.symm.trans (hK.2 1 _ rfl).2)
        subst h9
        rw [zc_byte, ha]
        show H1[H.size]? = some (vp_cell _ _)
        rw [f1, vp_cell_i]
        simp only [hz]
        rfl
      · have h9 : cA = tc 2 := Option.some.inj (hNm.symm.trans (hK.2 2 _ rfl).2)
        subst h9
        rw [zc_bool, ha]
        show H1[H.size]? = some (vp_cell _ _)
        rw [f1, vp_cell_i]
        simp only [hz]
        rfl
      · have h9 : cA = tc 3 := Option.some.inj (hNm.symm.trans (hK.2 3 _ rfl).2)
        subst h9
        rw [zc_long, ha]
        show H1[H.size]? = some (vp_cell _ _)
        rw [f1, vp_cell_l]
        simp only [hz]
        rfl
    have hP1 : va_P D vwCl (zw k.md ad tc (n + 1) h) H1 := by
      rw [← zw_push hlay]
      refine (hH.1.kept hk).app (fun j x hx => ?_)
      have hz9 : j < 1 := (List.getElem?_eq_some_iff.mp hx).1
      rw [show j = 0 by omega] at hx
      cases hx
      exact hcell
    have hD1 : va_D A (zw k.md ad tc (n + 1) h) := by
      rw [← zw_push hlay]
      exact hH.2.1.push hH.1 ha (hA _ (by rw [ha]; exact hH.2.2.1))
    have q := kk p l e R s m args below meth cd A D tc ad H1 locs (cells + 1) (slots + N) ls' C
      ⟨hP1, hD1, Nat.le_trans hH.2.2.1 (by omega), fun x h1 h2 => (o1 x (Nat.lt_of_lt_of_le h1 hH.2.2.1)).trans (hH.2.2.2.1 x h1 h2), hH.2.2.2.2⟩
      ⟨by show cells + 1 + (b.1 - 1) ≤ k.mc; omega, by show slots + N + (b.2 - N) ≤ k.ms; omega, fun z => by
        obtain ⟨z1, n0, z2, z3⟩ := hB.2.2 z
        exact ⟨by show cells + 1 + (b.1 - 1) = k.mc; omega, n0, by omega, z3⟩⟩ hl
    rw [List.map_cons, zv_ref (by omega), ha] at q
    exact q
  exact main T hT X

theorem s_mmax {idx : Nat} {x y : Int} (hd : decode Y.cd pc = .ok (.invokestatic idx, 3)) (hw1 : Cond.methodLink Y.own idx Lib.Math.max.name ∈ GW) (hw2 : Cond.static Lib.Math.max.name ∈ GW) (hw3 : Cond.initialized "java/lang/Math" ∈ GW) (hw4 : Cond.code Lib.Math.max.name Lib.Math.max.code 2 (some .int) ∈ GW) (hfr : 1 ≤ k.fr) (hst8 : (st.map zcat).sum ≤ 8) (rx : R32 x) (ry : R32 y) (kk : Wp Y k Q b (pc + 3) ls (zI (max x y) :: st) n h) : Wp Y k Q b pc ls (zI y :: zI x :: st) n h := by
  intro p l e R s m args below meth cd A D tc ad H locs cells slots ls' C hH hB hl
  have C0 := C
  obtain ⟨⟨hx, hb, hml, hr, hlk⟩, hown, hts, hK, hA, hR, hst, hE, hin, hexc, hlaw⟩ := C0
  have q := kk p l e R s m args below meth cd A D tc ad H locs cells slots ls' C hH hB hl
  have e9 : zv ad (zI (max x y)) = .int (if Int32.ofInt x < Int32.ofInt y then Int32.ofInt y else Int32.ofInt x) := by
    by_cases z : x < y
    · rw [if_pos ((i32lt rx ry).mpr z)]
      show Value.int (Int32.ofInt (max x y)) = _
      rw [show max x y = y by omega]
    · rw [if_neg (fun w => z ((i32lt rx ry).mp w))]
      show Value.int (Int32.ofInt (max x y)) = _
      rw [show max x y = x by omega]
  rw [List.map_cons, e9] at q
  have hB1 := hB.1
  have hB2 := hB.2.1
  refine va_mmax hx hb (hml.trans hl.1.symm) hown (hts _ hw1) (hts _ hw2) (hts _ hw3) (hts _ hw4) (Nat.le_trans hfr hR.1) ?_ (by have := hR.2.2.1; omega) (by have := hR.2.2.2; omega) hd q
  rw [zv_cats]
  have := hR.2.1
  have : 60 * 1 ≤ 60 * k.fr := Nat.mul_le_mul_left 60 hfr
  omega

theorem s_mmin {idx : Nat} {x y : Int} (hd : decode Y.cd pc = .ok (.invokestatic idx, 3)) (hw1 : Cond.methodLink Y.own idx Lib.Math.min.name ∈ GW) (hw2 : Cond.static Lib.Math.min.name ∈ GW) (hw3 : Cond.initialized "java/lang/Math" ∈ GW) (hw4 : Cond.code Lib.Math.min.name Lib.Math.min.code 2 (some .int) ∈ GW) (hfr : 1 ≤ k.fr) (hst8 : (st.map zcat).sum ≤ 8) (rx : R32 x) (ry : R32 y) (kk : Wp Y k Q b (pc + 3) ls (zI (min x y) :: st) n h) : Wp Y k Q b pc ls (zI y :: zI x :: st) n h := by
  intro p l e R s m args below meth cd A D tc ad H locs cells slots ls' C hH hB hl
  have C0 := C
  obtain ⟨⟨hx, hb, hml, hr, hlk⟩, hown, hts, hK, hA, hR, hst, hE, hin, hexc, hlaw⟩ := C0
  have q := kk p l e R s m args below meth cd A D tc ad H locs cells slots ls' C hH hB hl
  have e9 : zv ad (zI (min x y)) = .int (if Int32.ofInt y < Int32.ofInt x then Int32.ofInt y else Int32.ofInt x) := by
    by_cases z : y < x
    · rw [if_pos ((i32lt ry rx).mpr z)]
      show Value.int (Int32.ofInt (min x y)) = _
      rw [show min x y = y by omega]
    · rw [if_neg (fun w => z ((i32lt ry rx).mp w))]
      show Value.int (Int32.ofInt (min x y)) = _
      rw [show min x y = x by omega]
  rw [List.map_cons, e9] at q
  have hB1 := hB.1
  have hB2 := hB.2.1
  refine va_mmin hx hb (hml.trans hl.1.symm) hown (hts _ hw1) (hts _ hw2) (hts _ hw3) (hts _ hw4) (Nat.le_trans hfr hR.1) ?_ (by have := hR.2.2.1; omega) (by have := hR.2.2.2; omega) hd q
  rw [zv_cats]
  have := hR.2.1
  have : 60 * 1 ≤ 60 * k.fr := Nat.mul_le_mul_left 60 hfr
  omega

theorem s_mabs {idx : Nat} {x : Int} (hd : decode Y.cd pc = .ok (.invokestatic idx, 3)) (hw1 : Cond.methodLink Y.own idx Lib.Math.abs.name ∈ GW) (hw2 : Cond.static Lib.Math.abs.name ∈ GW) (hw3 : Cond.initialized "java/lang/Math" ∈ GW) (hw4 : Cond.code Lib.Math.abs.name Lib.Math.abs.code 1 (some .int) ∈ GW) (hfr : 1 ≤ k.fr) (hst8 : (st.map zcat).sum ≤ 8) (rx : R32 x) (kk : Wp Y k Q b (pc + 3) ls (zI (if 0 ≤ x then x else 0 - x) :: st) n h) : Wp Y k Q b pc ls (zI x :: st) n h := by
  intro p l e R s m args below meth cd A D tc ad H locs cells slots ls' C hH hB hl
  have C0 := C
  obtain ⟨⟨hx, hb, hml, hr, hlk⟩, hown, hts, hK, hA, hR, hst, hE, hin, hexc, hlaw⟩ := C0
  have q := kk p l e R s m args below meth cd A D tc ad H locs cells slots ls' C hH hB hl
  have e9 : zv ad (zI (if 0 ≤ x then x else 0 - x)) = .int (if 0 ≤ Int32.ofInt x then Int32.ofInt x else 0 - Int32.ofInt x) := by
    by_cases z : 0 ≤ x
    · rw [if_pos z, if_pos (show (0 : Int32) ≤ Int32.ofInt x from (i32le R32_0 rx).mpr z)]; rfl
    · rw [if_neg z, if_neg (fun w : (0 : Int32) ≤ Int32.ofInt x => z ((i32le R32_0 rx).mp w))]
      show Value.int (Int32.ofInt (0 - x)) = _
      rw [Int32.ofInt_sub]
      rfl
  rw [List.map_cons, e9] at q
  have hB1 := hB.1
  have hB2 := hB.2.1
  refine va_mabs hx hb (hml.trans hl.1.symm) hown (hts _ hw1) (hts _ hw2) (hts _ hw3) (hts _ hw4) (Nat.le_trans hfr hR.1) ?_ (by have := hR.2.2.1; omega) (by have := hR.2.2.2; omega) hd q
  rw [zv_cats]
  have := hR.2.1
  have : 60 * 1 ≤ 60 * k.fr := Nat.mul_le_mul_left 60 hfr
  omega
theorem x_out {E : String} (hex : Y.exc = []) (hlw : Y.law = false) (hmd : k.md = true) (hq : Q (.inr E) n h) : Wx Y k Q b pc ls n h E := by
  intro p l e R s m args below meth cd A D tc ad H locs cells slots ls' rest q ce C hH hB hl hcell hcv hcls
  obtain ⟨⟨hx, hb, hml, hr, hlk⟩, hown, hts, hK, hA, hR, hst, hE, hin, hexc, hlaw⟩ := C
  unfold zFin
  rw [if_neg (by rw [hlw]; decide)]
  have hB1 := hB.1
  have hB2 := hB.2.1
  refine vx_out (by rw [hexc, hex]; intro x z; cases z) hlk hcell hcv hcls (fun t ht _ => ?_) hH.2.2.2.2 (by omega) (by omega)
  exact ⟨⟨n, h, hmd, hq, by rw [ht]; exact hH.1, hH.2.1⟩, hH.2.2.F ht⟩
/-- caught, and put into a local that is never read -/
theorem x_catch {E name : String} {hs : Nat × Nat × Nat × Nat} {f : Fin 4} (pre suf : List (Nat × Nat × Nat × Nat)) (hsp : Y.exc = pre ++ hs :: suf) (hpre : ∀ z ∈ pre, z.2.2.2 ≠ 0 ∧ ∃ nm, Cond.classLink Y.own z.2.2.2 nm ∈ GW ∧ E = "java/lang/IllegalArgumentException" ∧ nm = "java/util/NoSuchElementException") (hcov : hs.1 ≤ pc ∧ pc < hs.2.1) (h0 : hs.2.2.2 ≠ 0) (hw1 : Cond.classLink Y.own hs.2.2.2 name ∈ GW) (hEn : E = name) (hEz : E ∈ zThr) (hd : decode Y.cd hs.2.2.1 = .ok (.astore_n f, 1)) (hg : nlg ls (f : Nat) = true) (hn : (f : Nat) < Y.nL) (kk : Wp Y k Q b (hs.2.2.1 + 1) (ls.set (f : Nat) none) [] n h) : Wx Y k Q b pc ls n h E := by
  intro p l e R s m args below meth cd A D tc ad H locs cells slots ls' rest q ce C hH hB hl hcell hcv hcls
  have C0 := C
  obtain ⟨⟨hx, hb, hml, hr, hlk⟩, hown, hts, hK, hA, hR, hst, hE, hin, hexc, hlaw⟩ := C0
  subst hEn
  refine vx_catch hown (tableOf pre) ⟨hs.1, hs.2.1, hs.2.2.1, hs.2.2.2⟩ (tableOf suf) (by rw [hexc, hsp]; simp [tableOf]) ?_ ?_ h0 (hts _ hw1) (va_Nw.use rfl (hE.2.2.2.2.2.2.2.2.1 _ hEz)) hcell hcv hcls ?_
  · intro z hz
    obtain ⟨w, hw, rfl⟩ := List.mem_map.mp hz
    obtain ⟨g1, nm, g2, g3, g4⟩ := hpre w hw
    refine Or.inr ⟨g1, nm, hts _ g2, ?_⟩
    rw [g3, g4]
    exact hE.2.2.2.1
  · simp [covers, hcov.1, hcov.2]
  · refine lv_astore_n hx hb hd rfl hl hn rfl (fun l2 hl2 => ?_)
    refine kk p l e R s m args below meth cd A D tc ad H locs cells slots l2 C hH hB ?_
    refine ⟨hl2.1, hl2.2.1, fun w hw => ?_⟩
    obtain ⟨i, v⟩ := w
    obtain ⟨u, h1, h2, h3⟩ := lvl_mem.mp hw
    refine hl2.2.2 _ (List.mem_cons_of_mem _ (List.mem_filter.mpr ⟨?_, ?_⟩))
    · by_cases hi : i = (f : Nat)
      · subst hi
        by_cases hlt : (f : Nat) < ls.length
        · rw [List.getElem?_set_self hlt] at h1
          cases h1
          cases h2
        · rw [List.getElem?_eq_none (by rw [List.length_set]; omega)] at h1
          cases h1
      · rw [List.getElem?_set_ne (Ne.symm hi)] at h1
        exact lvl_mem.mpr ⟨u, h1, h2, h3⟩
    · have hi : i ≠ (f : Nat) := by
        intro hi
        subst hi
        by_cases hlt : (f : Nat) < ls.length
        · rw [List.getElem?_set_self hlt] at h1
          cases h1
          cases h2
        · rw [List.getElem?_eq_none (by rw [List.length_set]; omega)] at h1
          cases h1
      rw [List.getElem?_set_ne (Ne.symm hi)] at h1
      have h4 : ¬ (i + 1 = (f : Nat) ∧ v.category = 2) := by
        rintro ⟨e0, hc⟩
        rw [h3, zv_cat] at hc
        rw [← e0] at hg
        simp only [nlg, h1] at hg
        rcases u with _ | x | x | c
        · cases h2
        · simp [zcat] at hc
        · simp at hg
        · simp [zcat] at hc
      simp only [Bool.and_eq_true, Bool.not_eq_true', beq_eq_false_iff_ne, ne_eq, Bool.and_eq_false_iff]
      refine ⟨hi, ?_⟩
      by_cases e0 : i + 1 = (f : Nat)
      · exact Or.inr (fun z => h4 ⟨e0, z⟩)
      · exact Or.inl e0
theorem s_ldcS {idx i : Nat} {tx : String} (hd : decode Y.cd pc = .ok (.ldc idx, 2)) (hy : Y.own = "EchoGorge$Reader") (hs : zStr[i]? = some (idx, tx)) (kk : Wp Y k Q b (pc + 2) ls (zR (-(i : Int) - 1) :: st) n h) : Wp Y k Q b pc ls st n h := by
  intro p l e R s m args below meth cd A D tc ad H locs cells slots ls' C hH hB hl
  have C0 := C
  obtain ⟨⟨hx, hb, hml, hr, hlk⟩, hown, hts, hK, hA, hR, hst, hE, hin, hexc, hlaw⟩ := C0
  have q := kk p l e R s m args below meth cd A D tc ad H locs cells slots ls' C hH hB hl
  rw [List.map_cons, zv_ref (by omega)] at q
  have z := hE.2.2.2.2.2.2.2.1 i _ hs
  rw [hy] at hown
  exact va_ldcS (own := "EchoGorge$Reader") hx hb hown z hd q
/-- all are made: the law goes on -/
theorem s_made {k2 : KD} (hlw : Y.law = true) (hmd : k.md = false) (hk2 : k2 = (true, k.2)) (hfl : ∀ (j : Nat) (K : Nat × Nat), j < n → LAY[j]? = some K → ∀ (kf : Nat) (t : Nat × Int), (FT.getD K.1 [])[kf]? = some t → 4 ≤ t.1 → h ((j : Int) + 1) kf ≠ 0) (hnL : n ≤ LAY.length) (kk : Wp Y k2 Q b pc ls st n h) : Wp Y k Q b pc ls st n h := by
  subst hk2
  intro p l e R s m args below meth cd A D tc ad H locs cells slots ls' C hH hB hl
  have C0 := C
  obtain ⟨⟨hx, hb, hml, hr, hlk⟩, hown, hts, hK, hA, hR, hst, hE, hin, hexc, hlaw⟩ := C0
  have ew : zw k.md ad tc n h = zw true ad tc n h := by
    unfold zw
    refine List.map_congr_left (fun j hj => ?_)
    have hj : j < n := List.mem_range.mp hj
    have hjl : j < LAY.length := by omega
    have hg : LAY.getD j (0, 0) = LAY[j] := by rw [List.getD_eq_getElem?_getD, List.getElem?_eq_getElem hjl]; rfl
    have hf := hfl j _ hj (List.getElem?_eq_getElem hjl)
    rw [hg]
    congr 1
    unfold zc
    split
    · rfl
    · split
      · rfl
      · split
        · rfl
        · split
          · rfl
          · congr 2
            unfold zfs
            apply List.ext_getElem?
            intro i
            rw [List.getElem?_mapIdx, List.getElem?_mapIdx]
            cases ht : (FT.getD LAY[j].1 [])[i]? with
            | none => rfl
            | some t =>
              simp only [Option.map_some]
              congr 1
              unfold zf
              by_cases g1 : t.1 ≤ 1
              · rw [if_pos g1, if_pos g1]
              · rw [if_neg g1, if_neg g1]
                by_cases g2 : t.1 = 2
                · rw [if_pos g2, if_pos g2]
                · rw [if_neg g2, if_neg g2]
                  by_cases g3 : t.1 = 3
                  · rw [if_pos g3, if_pos g3]
                  · rw [if_neg g3, if_neg g3]
                    rw [if_pos (Or.inr (hf i t ht (by omega))), if_pos (Or.inl rfl)]
  have q := kk p l e R s m args below meth cd A D tc ad H locs cells slots ls' ⟨⟨hx, hb, hml, hr, hlk⟩, hown, hts, hK, hA, hR, hst, hE, hin, hexc, hlaw⟩ ⟨by rw [← ew]; exact hH.1, by rw [← ew]; exact hH.2.1, hH.2.2⟩ ⟨hB.1, hB.2.1, fun z => by cases z⟩ hl
  unfold zFin at q ⊢
  rw [if_pos hlw] at q ⊢
  exact q
end RulesG
