/-! ===== the claim ===== -/
def kS (L : Nat) (xs : Nat → Int) : KD := (false, 1000, 600128, 7301097, L, xs)
def Q1 : RS → Nat → AH → Prop := fun r _ _ => r = .inl (some (zI 1))
theorem start_room {L : Nat} {xs : Nat → Int} : (kS L xs).fr ≤ room_1.frames ∧ 60 * (kS L xs).fr ≤ room_1.locals ∧ (kS L xs).mc ≤ room_1.cells ∧ (kS L xs).ms ≤ room_1.slots := ⟨show (1000 : Nat) ≤ 2048 by decide, show (60 * 1000 : Nat) ≤ 84000 by decide, show (600128 : Nat) ≤ 600128 from Nat.le_refl _, show (7301097 : Nat) ≤ 7301097 from Nat.le_refl _⟩
theorem start_H {s : State} {D : va_G} {tc : Nat → ClassId} {ad : Int → Nat} {h : AH} : zH false D tc ad (fun q => s.heap.size ≤ q) s.heap 0 h s.heap [] := ⟨fun k q hk => by simp [zw] at hk, ⟨fun i j p q hp => by simp [zw] at hp, fun k q hk => by simp [zw] at hk⟩, va_S.rf⟩
theorem start_B {s : State} {ad : Int → Nat} {L : Nat} {xs : Nat → Int} (had : ∀ j : Nat, ad ((0 : Int) + 1 + j) = s.heap.size + j) : zB (kS L xs) (600128, 7301097) ad s 0 0 0 := ⟨Nat.le_of_eq (Nat.zero_add _), Nat.le_of_eq (Nat.zero_add _), fun _ => ⟨Nat.zero_add _, 0, rfl, had⟩⟩
theorem start_law {s : State} {ad : Int → Nat} {b L : Nat} {xs : Nat → Int32} (ab : ad (-100) = b) (hX : va_X b L xs s s.heap) (hbl : b < s.heap.size) : zlaw mL_law (kS L (fun j => (xs j).toInt)) room_1 s #[Value.ref b] (fun q => s.heap.size ≤ q) ad Q1 := by
  have exs : (fun j => Int32.ofInt ((xs j).toInt)) = xs := funext fun j => Int32.ofInt_toInt _
  refine ⟨⟨rfl, rfl⟩, rfl, by rw [ab], ?_, by rw [ab]; exact hbl, by rw [ab]; exact Nat.not_le.mpr hbl, rfl, rfl, fun v n h z => Sum.inl.inj z, fun _ z => z⟩
  rw [ab]
  show va_X b L (fun j => Int32.ofInt ((xs j).toInt)) s s.heap
  rw [exs]; exact hX
theorem start_C {p : Program} {s : State} {m : MethodId} {meth : Method} {c : Code} {l : Launch} {b L : Nat} {xs : Nat → Int32} {D : va_G} {tc : Nat → ClassId} {ad : Int → Nat} (hl : l.stackTraces = false) (hex : c.exceptionTable.toList = []) (C0 : lw_At p s m meth c b L xs) (hK : va_K D vwCl (ztys tc) s) (hE : zE ad (fun q => s.heap.size ≤ q) s s.heap) (ab : ad (-100) = b) : zC mL_law (kS L (fun j => (xs j).toInt)) Q1 p l room_1 s m #[Value.ref b] meth c (fun q => s.heap.size ≤ q) D tc ad := by
  obtain ⟨hx, hb, hr, hml, hown, hts, hX, hbl, hlocks, hgv⟩ := C0
  exact ⟨⟨hx, hb, hml, hr, hlocks⟩, hown, fun w hw => hts w (List.mem_filter.mp hw).1, hK, fun _ z => z, start_room, hl, hE, (fun z => by cases z), hex, fun _ => start_law ab hX hbl⟩
theorem whole_start {p : Program} {e : Env} {s : State} {m : MethodId} {below : List Frame} {meth : Method} {c : Code} (l : Launch) {b L : Nat} {xs : Nat → Int32} (hl : l.stackTraces = false) (hex : c.exceptionTable.toList = []) (hL : L ≤ 384) (C0 : lw_At p s m meth c b L xs) : W p l e room_1 s m #[Value.ref b] below meth c s.heap [] 0 0 (lw_Z below #[Value.ref b] s) (entryFrame m ([Value.ref b] : List Value).toArray 7) := by
  obtain ⟨adK, adV, hzE⟩ := start_zE C0.2.2.2.2.2.1 C0.2.2.2.2.2.2.2.2.2
  obtain ⟨D, tc, hK⟩ := start_K C0.2.2.2.2.2.1
  obtain ⟨ad, had⟩ : ∃ ad : Int → Nat, ∀ z : Int, ad z = if z = -100 then b else if 1 ≤ z then s.heap.size + (z - 1).toNat else if -50 ≤ z then adK (-z - 1).toNat else adV (-z - 200).toNat := ⟨_, fun _ => rfl⟩
  have ab : ad (-100) = b := by rw [had, if_pos rfl]
  have hE : zE ad (fun q => s.heap.size ≤ q) s s.heap := hzE ad (fun i hi => by
    constructor
    · rw [had, if_neg (by omega), if_neg (by omega), if_pos (by omega)]
      congr 1; omega
    · rw [had, if_neg (by omega), if_neg (by omega), if_neg (by omega)]
      congr 1; omega)
  have w : Wp mL_law (kS L (fun j => (xs j).toInt)) Q1 (600128, 7301097) 0 [zR (-100), none, none, none, none, none, none] [] 0 (fun _ _ => 0) := law_wp (L := L) (xs := fun j => (xs j).toInt) (Q := Q1) hL (fun j => R_of _) (fun _ _ => rfl)
  have hzl := zl_entry (ad := ad) (args := [zR (-100)]) (nL := 7) (fun v hv => by rw [List.mem_singleton.mp hv]; rfl) (by decide)
  have ev : [zR (-100)].map (zv ad) = [Value.ref b] := by
    rw [List.map_cons, zv_ref (by decide), ab]; rfl
  rw [ev] at hzl
  rw [lg_entry_eq]
  have q := w p l e room_1 s m #[Value.ref b] below meth c (fun q => s.heap.size ≤ q) D tc ad s.heap [] 0 0 _ (start_C hl hex C0 hK hE ab) start_H (start_B (fun j => by rw [had, if_neg (by omega), if_pos (by omega)]; congr 1; omega)) hzl
  unfold zFin at q
  rw [if_pos rfl] at q
  exact q
set_option maxHeartbeats 4000000 in
theorem lw_walk (l : Launch) (hl : l.stackTraces = false) (b : Addr) (xs : List Int32) : MetFree l x (headSpec (Jvm.Cond.code x code maxLocals ret :: tables_1) room_1) (lw_P b xs) (fun _ _ _ _ _ => True) lw_Q := by
  refine MetFree.of_bodyS (code := code) (maxLocals := maxLocals) (ret := ret) (by decide) ?_ ?_
  · intro args s m h hn
    obtain ⟨meth, c, h1, h2, h3, h4, h5, h6, -, -⟩ := Cond.code_spec hn (atoms_spec (ws := Jvm.Cond.code x code maxLocals ret :: tables_1) h _ List.mem_cons_self)
    exact ⟨meth, c, h1, h2, h3, h4, h5, h6⟩
  · intro p e s m args below meth c s₁ B hml0 hP _
    obtain ⟨rfl, hx, hbd, hgv⟩ := hP
    obtain ⟨scr, harrAt, hlist, hof, hsmall⟩ := hx
    obtain ⟨hcb, hkn, -, -⟩ := State.arrayAt?_spec harrAt
    have hown : s.vm.findClass R_law = some m.cls := findClass_of_methodNamed B.named
    have hts0 : ∀ c ∈ (Jvm.Cond.code x code maxLocals ret :: tables_1), c.before #[Value.ref b] s = true := atoms_spec (ws := Jvm.Cond.code x code maxLocals ret :: tables_1) B.pre
    have hts : ∀ w ∈ lw_tbl, w.before #[Value.ref b] s = true := k2_hts_sels lw_privs (fun w hw => hts0 w (List.mem_cons_of_mem _ hw)) lw_privs_ok
    have hml : c.maxLocals = 7 := B.maxLocals_eq (hts0 _ List.mem_cons_self)
    have X₀ : Stand p l e room_1 s m #[Value.ref b] below meth c s₁ [] 0 0 := Stand.of_body B
    have hh0 : s₁.heap = s.heap := by rw [B.state]; rfl
    have hex : c.exceptionTable.toList = [] := by
      obtain ⟨meth9, c9, k1, k2, -, -, -, -, k7, -⟩ := Cond.code_spec B.named (atoms_spec (ws := Jvm.Cond.code x code maxLocals ret :: tables_1) B.pre _ List.mem_cons_self)
      cases Option.some.inj (k1.symm.trans B.method)
      cases Option.some.inj (k2.symm.trans (Stand.of_body B).code)
      rw [Array.isEmpty_iff.mp k7]
    have hsz : scr.slots.size = xs.length := by rw [← Array.length_toList, hlist, List.length_map]
    have hval : ∀ j : Nat, j < xs.length → scr.slots[j]? = some (.int (xs.getD j 0)) := fun j hj => by
      rw [← Array.getElem?_toList, hlist]
      simp [hj]
    have hbl : b < s.heap.size := (Array.getElem?_eq_some_iff.mp hcb).1
    have hX : va_X b xs.length (fun j => xs.getD j 0) s s.heap := ⟨scr, hcb, hof, hkn, hsz, hval⟩
    have K : W p l e room_1 s m #[Value.ref b] below meth c s₁.heap [] 0 0 (lw_Z below #[Value.ref b] s) (entryFrame m ([Value.ref b] : List Value).toArray 7) := by
      rw [hh0]
      exact whole_start l hl hex hbd ⟨B.exec, B.bytes, B.returns, hml, hown, hts, hX, hbl, B.notSynchronized, hgv⟩
    obtain ⟨t, a1, o, b1, b2, b3⟩ := K s₁ rfl X₀
    exact ⟨t, o, a1, b1, b2, b3⟩
theorem lw_pre_spec {args : Array Value} {s : State} (h : (Jvm.Cond.and given_1 narrow_1).before args s = true) (hr : rest_1_c.before args s = true) : ∃ (b : Addr) (xs : List Int32), lw_P b xs args s := by
  have hs := flat_of_before _ h
  have hq := flat_of_before _ hr
  have hc : (Cond.count 1).before args s = true := hs _ (by decide +kernel)
  have harr : (Cond.arrayOf (.arg 0) .int).before args s = true := hs _ (by decide +kernel)
  have hle : (Cond.le (.length (.arg 0)) (.int 384)).before args s = true := hs _ (by decide +kernel)
  have hlen : (Cond.isInt (.length (.arg 0))).before args s = true := hq _ (by decide +kernel)
  have hall : (Cond.all (.arg 0) (.isInt (.elem (.arg 0) (.index 0)))).before args s = true := hq _ (by decide +kernel)
  obtain ⟨b, xs, hb, hx⟩ := State.ints_of_pre rfl harr hlen hall
  have hsm : xs.length < 2 ^ 31 := hx.choose_spec.2.2.2
  have hev : (Term.length (.arg 0)).eval args s none [] s = some (.int xs.length.toInt32) := hx.length_eval hb
  have hv := Cond.le_ints hev (show (Term.int 384).eval args s none [] s = some (.int 384) from rfl)
  have hd : xs.length.toInt32 ≤ 384 := by
    simpa [Cond.before, Cond.holds, hv] using hle
  have hN : xs.length ≤ 384 := (Int32.ofNat_le_ofNat hsm (by decide)).mp (show Int32.ofNat xs.length ≤ Int32.ofNat 384 from hd)
  exact ⟨b, xs, Cond.one_arg hc (show args[0]? = some (.ref b) from hb), hx, hN, h⟩
theorem lw_comes (l : Launch) (hl : l.stackTraces = false) : Comes l x (Jvm.Cond.code x code maxLocals ret :: tables_1) room_1 (fun tb e args s => Calls_1 tb e args s ∧ rest_1 tb e args s ∧ Pre_1 tb e args s)
    (fun _ _ args s o t => lw_Q args s o t) := by
  intro p e ha hc hk s m args below hf hfit hheap happ hpre
  obtain ⟨b, xs, hP⟩ := lw_pre_spec hpre.2.2 hpre.2.1
  obtain ⟨k, o, h1, h2, h3, hQ⟩ := lw_walk l hl b xs p e ha hc hk s m args below hf ((Spec.applies_iff_loose hf).mp happ).1 hP trivial
  exact ⟨k, o, h1, h2, h3, hQ⟩
theorem lw_frame {s t : State} {o : Outcome} {args : Array Value} (h : Framed s o t [] 600128 7301097) :
    Framed s o t (fieldLocs frame_1_writes args s ++ arrayLocs frame_1_arrays args s ++ staticLocs frame_1_statics s) 600128 7301097 := h
theorem lw_limb (L : Cond) (hL : ∀ (args : Array Value) (s t : State), L.after args s (.returned (some (.int 1))) t = true) :
    ArmFor flags0 classFile x code maxLocals ret World_1 tables_1 room_1 Calls_1 rest_1 Pre_1
      (fun tb e a s o t => postC L tb e a s o t ∧ Framed s o t (fieldLocs frame_1_writes a s ++ arrayLocs frame_1_arrays a s ++ staticLocs frame_1_statics s) 600128 7301097) := by
  intro l hfl _ _ p e ha hc hk s m args below hf hfit hheap happ hpre
  have hl : l.stackTraces = false := by
    unfold Jvm.Launch.stackTraces
    rw [hfl]
    decide +kernel
  obtain ⟨k, o, h1, h2, h3, rfl, hF⟩ := lw_comes l hl p e ha hc hk s m args below hf hfit hheap happ hpre
  exact ⟨k, _, h1, h2, h3, hL args s _, lw_frame hF⟩
theorem i_vc : Claimed_1_1 ∧ Claimed_1_2 := ⟨lw_limb limb_1_1 (fun args s t => by simp [limb_1_1, Cond.after, Cond.holds, Cond.value]), lw_limb limb_1_2 (fun args s t => Cond.after_iff.mpr (by
  first | (rw [show limb_1_2 = Cond.eq .result (.int 1) from rfl, Cond.eq_ints (x := 1) (y := 1) rfl rfl]; simp; done) | (simp [limb_1_2, Cond.value, Term.eval]; done)))⟩
