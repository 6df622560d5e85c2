/-! ===== making: rules that know that what is not made yet is blank ===== -/
def frz (n : Nat) (h : AH) : Prop := ∀ c : Int, (n : Int) < c → ∀ i, h c i = 0
theorem frz_up {n : Nat} {h : AH} {c i v : Int} (f : frz n h) (hc : c ≤ n) : frz n (up h c i v) := fun d hd j => by rw [up_n (by omega)]; exact f d hd j
theorem frz_mono {n m : Nat} {h : AH} (f : frz n h) (hm : n ≤ m) : frz m h := fun d hd j => f d (by omega) j
theorem fil_nn {h : AH} {a v c : Int} {N : Nat} (e : c ≠ a) : fil h a v N c = h c := if_neg e
theorem frz_fil {n N : Nat} {h : AH} {a v : Int} (f : frz n h) (ha : a ≤ n) : frz n (fil h a v N) := fun d hd j => by rw [fil_nn (by omega)]; exact f d hd j
abbrev kF (fr mc ms : Nat) : KD := (false, fr, mc, ms, 0, fun _ => 0)
def rF (n0 : Nat) (R : AH → Prop) : RS → Nat → AH → Prop := fun r n h => r = .inl none ∧ n = n0 ∧ frz n0 h ∧ R h
theorem rF_nt {n0 : Nat} {R : AH → Prop} : ∀ E n' h', ¬ rF n0 R (.inr E) n' h' := fun E n' h' z => by obtain ⟨e, -⟩ := z; cases e
theorem Sp.mkF {Y : YD} {fr mc ms n : Nat} {args : List AV} {h : AH} {P : RS → Nat → AH → Prop} (hy : Yok Y) (hc : args.all (fun v => zcat v == 1) = true) (hlen : Nat.ble args.length Y.nL = true)
    (hW : Wp Y (kF fr mc ms) P (mc, ms) 0 (lof Y.nL args) [] n h) : Sp Y false fr mc ms args n h P :=
  Sp.of hy (fun v hv => by have := List.all_eq_true.mp hc v hv; simpa using this) (Nat.le_of_ble_eq_true hlen) hW
section
variable {Y : YD} {k : KD} {Q : RS → Nat → AH → Prop} {b : Nat × Nat} {pc : Nat} {ls st : List AV} {n : Nat} {h : AH}
theorem f_put {idx ci N kf : Nat} {off c x kz : Int} (hkz : (kf : Int) = kz) (hd : decode Y.cd pc = .ok (.putfield idx, 3)) (hf : Fk Y.own idx ci N kf 0 off) (hc : cel n c (ci, N)) (hn : c ≤ n) (fz : frz n h) (kk : frz n (up h c kz x) → Wp Y k Q b (pc + 3) ls st n (up h c kz x)) : Wp Y k Q b pc ls (zI x :: zR c :: st) n h := by
  subst hkz
  exact s_put hd hf hc (kk (frz_up fz hn))
theorem f_putZ {idx ci N kf : Nat} {off c x kz : Int} (hkz : (kf : Int) = kz) (hd : decode Y.cd pc = .ok (.putfield idx, 3)) (hf : Fk Y.own idx ci N kf 1 off) (hc : cel n c (ci, N)) (hv : x = 0 ∨ x = 1) (hn : c ≤ n) (fz : frz n h) (kk : frz n (up h c kz x) → Wp Y k Q b (pc + 3) ls st n (up h c kz x)) : Wp Y k Q b pc ls (zI x :: zR c :: st) n h := by
  subst hkz
  exact s_putZ hd hf hc hv (kk (frz_up fz hn))
theorem f_putR {idx ci N kf : Nat} {off c x kz : Int} (hkz : (kf : Int) = kz) (hd : decode Y.cd pc = .ok (.putfield idx, 3)) (hf : Fk Y.own idx ci N kf 3 off) (hc : cel n c (ci, N)) (hn : c ≤ n) (fz : frz n h) (kk : frz n (up h c kz x) → Wp Y k Q b (pc + 3) ls st n (up h c kz x)) : Wp Y k Q b pc ls (zR x :: zR c :: st) n h := by
  subst hkz
  exact s_putR hd hf hc (kk (frz_up fz hn))
theorem f_putF {idx ci N kf : Nat} {off c x kz : Int} (hkz : (kf : Int) = kz) (hd : decode Y.cd pc = .ok (.putfield idx, 3)) (hf : Fk Y.own idx ci N kf 4 off) (hc : cel n c (ci, N)) (hini : Y.ini = true) (hxo : x = c + off) (hx0 : x ≠ 0) (hdc : ∀ T : u_T, ∀ C : String, ∀ N : Nat, vwCl[ci]? = some (C, T, N) → (T kf).1 = Y.own) (hn : c ≤ n) (fz : frz n h) (kk : frz n (up h c kz 1) → Wp Y k Q b (pc + 3) ls st n (up h c kz 1)) : Wp Y k Q b pc ls (zR x :: zR c :: st) n h := by
  subst hkz
  exact s_putF hd hf hc hini hxo hx0 hdc (kk (frz_up fz hn))
theorem f_iast {N : Nat} {c i x : Int} (hd : decode Y.cd pc = .ok (.iastore, 1)) (hc : cel n c (100, N)) (i0 : 0 ≤ i) (i1 : i < N) (hn : c ≤ n) (fz : frz n h) (kk : frz n (up h c i x) → Wp Y k Q b (pc + 1) ls st n (up h c i x)) : Wp Y k Q b pc ls (zI x :: zI i :: zR c :: st) n h := s_iast hd hc i0 i1 (kk (frz_up fz hn))
theorem f_new {idx ci N : Nat} (hd : decode Y.cd pc = .ok (.new idx, 3)) (hf : Nk Y.own idx ci N) (hlay : LAY[n]? = some (ci, N)) (hmd : k.md = false) (hb1 : 1 ≤ b.1) (hb2 : N ≤ b.2) (fz : frz n h) (kk : frz (n + 1) h → Wp Y k Q (b.1 - 1, b.2 - N) (pc + 3) ls (zR ((n : Int) + 1) :: st) (n + 1) h) : Wp Y k Q b pc ls st n h := s_new hd hf hlay hmd (fun i => fz _ (by omega) i) hb1 hb2 (kk (frz_mono fz (by omega)))
theorem f_newarr {N K : Nat} {x : Int} {at_ : ArrayType} (hd : decode Y.cd pc = .ok (.newarray at_, 2)) (hw : Cond.arrayClass (newarray.typeOf at_) ∈ GW) (hty : (at_ = .int ∧ K = 100) ∨ (at_ = .byte ∧ K = 101) ∨ (at_ = .boolean ∧ K = 102) ∨ (at_ = .long ∧ K = 103)) (hxN : x = N) (hlay : LAY[n]? = some (K, N)) (hmd : k.md = false) (hb1 : 1 ≤ b.1) (hb2 : N ≤ b.2) (fz : frz n h) (kk : frz (n + 1) h → Wp Y k Q (b.1 - 1, b.2 - N) (pc + 2) ls (zR ((n : Int) + 1) :: st) (n + 1) h) : Wp Y k Q b pc ls (zI x :: st) n h := s_newarr (t0 := 0) hd hw hty hxN hlay hmd (fun i => fz _ (by omega) i) hb1 hb2 (kk (frz_mono fz (by omega)))
end
/-- fill, while cells are made -/
theorem n_fill {fr n N : Nat} {a v : Int} {h : AH} (hc : cel n a (100, N)) (ha : a ≤ n) (fz : frz n h) : Sp mJ7_fill_53178 false fr 0 0 [zR a, zI v] n h (rF n (fun h' => h' = fil h a v N)) := by
  refine Sp.mkF yJ7_fill_53178_ok rfl rfl ?_
  have hN : N < 4000 := cel_small hc
  show Wp _ _ _ _ 0 [zR a, zI v, none, none] [] n h
  refine s_iconst dJ7_fill_53178_0 ?_
  refine s_istore_n dJ7_fill_53178_1 rfl (by decide) ?_
  refine s_aload_n (x := a) dJ7_fill_53178_2 rfl ?_
  refine s_alen (c := a) dJ7_fill_53178_3 hc (by decide) ?_
  refine s_istore_n dJ7_fill_53178_4 rfl (by decide) ?_
  suffices H : ∀ (d i : Nat), i + d = N → Wp mJ7_fill_53178 (kF fr 0 0) (rF n (fun h' => h' = fil h a v N)) (0, 0) 5 [zR a, zI v, zI i, zI N] [] n (fil h a v i) by
    have := H N 0 (by omega)
    rw [fil_0] at this
    exact this
  intro d
  induction d with
  | zero =>
    intro i hi
    refine s_iload_n (x := i) dJ7_fill_53178_5 rfl ?_
    refine s_iload_n (x := N) dJ7_fill_53178_6 rfl ?_
    refine s_icmp_ge (tgt := 20) dJ7_fill_53178_7 (by decide) ⟨by omega, by omega⟩ ⟨by omega, by omega⟩ (fun q => ?_) (fun q => by omega)
    exact s_return dJ7_fill_53178_20 rfl ⟨rfl, rfl, frz_fil fz ha, by rw [show i = N by omega]⟩ (fun _ => rfl)
  | succ d ih =>
    intro i hi
    refine s_iload_n (x := i) dJ7_fill_53178_5 rfl ?_
    refine s_iload_n (x := N) dJ7_fill_53178_6 rfl ?_
    refine s_icmp_ge (tgt := 20) dJ7_fill_53178_7 (by decide) ⟨by omega, by omega⟩ ⟨by omega, by omega⟩ (fun q => by omega) (fun q => ?_)
    refine s_aload_n (x := a) dJ7_fill_53178_10 rfl ?_
    refine s_iload_n (x := i) dJ7_fill_53178_11 rfl ?_
    refine s_iload_n (x := v) dJ7_fill_53178_12 rfl ?_
    refine s_iast (c := a) (i := i) dJ7_fill_53178_13 hc (by omega) (by omega) ?_
    refine s_iinc (x := i) dJ7_fill_53178_14 rfl rfl (by decide) ?_
    refine s_goto (tgt := 5) dJ7_fill_53178_17 (by decide) ?_
    have := ih (i + 1) (by omega)
    rw [fil_s]
    exact this
theorem we2 : ((Jvm.Cond.initialized "EchoGorge$Gorge") : Cond) ∈ GW := tw1 (List.mem_of_getElem? (i := 2) rfl) rfl
theorem we3 : ((Jvm.Cond.initialized "java/util/Arrays") : Cond) ∈ GW := tw1 (List.mem_of_getElem? (i := 3) rfl) rfl
theorem we4 : ((Jvm.Cond.initialized "EchoGorge$Scene") : Cond) ∈ GW := tw1 (List.mem_of_getElem? (i := 4) rfl) rfl
theorem we5 : ((Jvm.Cond.initialized "EchoGorge$Reader") : Cond) ∈ GW := tw1 (List.mem_of_getElem? (i := 5) rfl) rfl
theorem we6 : ((Jvm.Cond.initialized "EchoGorge$Returns") : Cond) ∈ GW := tw1 (List.mem_of_getElem? (i := 6) rfl) rfl
theorem we7 : ((Jvm.Cond.initialized "EchoGorge$Hearing") : Cond) ∈ GW := tw1 (List.mem_of_getElem? (i := 7) rfl) rfl
theorem we8 : ((Jvm.Cond.initialized "EchoGorge$Verses") : Cond) ∈ GW := tw1 (List.mem_of_getElem? (i := 8) rfl) rfl
theorem we9 : ((Jvm.Cond.initialized "EchoGorge$Chant") : Cond) ∈ GW := tw1 (List.mem_of_getElem? (i := 9) rfl) rfl
theorem we10 : ((Jvm.Cond.initialized "EchoGorge$Guess") : Cond) ∈ GW := tw1 (List.mem_of_getElem? (i := 10) rfl) rfl
theorem we11 : ((Jvm.Cond.initialized "EchoGorge$Truth") : Cond) ∈ GW := tw1 (List.mem_of_getElem? (i := 11) rfl) rfl
theorem we12 : ((Jvm.Cond.initialized "EchoGorge$Places") : Cond) ∈ GW := tw1 (List.mem_of_getElem? (i := 12) rfl) rfl
theorem we13 : ((Jvm.Cond.initialized "EchoGorge$Claps") : Cond) ∈ GW := tw1 (List.mem_of_getElem? (i := 13) rfl) rfl
theorem we32 : ((Jvm.Cond.methodLink "EchoGorge" 1 objectInit) : Cond) ∈ GW := tw1 (List.mem_of_getElem? (i := 32) rfl) rfl
theorem we33 : ((Jvm.Cond.instanceMethod objectInit) : Cond) ∈ GW := tw1 (List.mem_of_getElem? (i := 33) rfl) rfl
theorem we34 : ((Jvm.Cond.code objectInit ⟨#[0xb1]⟩ 1 (Option.none : Option Jvm.ClassFile.FieldType)) : Cond) ∈ GW := tw1 (List.mem_of_getElem? (i := 34) rfl) rfl
theorem we35 : ((Jvm.Cond.classLink "EchoGorge" 24 "EchoGorge$Gorge") : Cond) ∈ GW := tw1 (List.mem_of_getElem? (i := 35) rfl) rfl
theorem we36 : ((Jvm.Cond.instantiable "EchoGorge$Gorge" 21) : Cond) ∈ GW := tw1 (List.mem_of_getElem? (i := 36) rfl) rfl
theorem we37 : ((Jvm.Cond.methodLink "EchoGorge" 26 ⟨"EchoGorge$Gorge","<init>","()V"⟩) : Cond) ∈ GW := tw1 (List.mem_of_getElem? (i := 37) rfl) rfl
theorem we38 : ((Jvm.Cond.instanceMethod ⟨"EchoGorge$Gorge","<init>","()V"⟩) : Cond) ∈ GW := tw1 (List.mem_of_getElem? (i := 38) rfl) rfl
theorem we39 : ((Jvm.Cond.code ⟨"EchoGorge$Gorge","<init>","()V"⟩ prog_4_method_1_code 1 (Option.none : Option Jvm.ClassFile.FieldType)) : Cond) ∈ GW := tw1 (List.mem_of_getElem? (i := 39) rfl) rfl
theorem we40 : ((Jvm.Cond.methodLink "EchoGorge$Gorge" 3 objectInit) : Cond) ∈ GW := tw1 (List.mem_of_getElem? (i := 40) rfl) rfl
theorem we41 : ((Jvm.Cond.methodLink "EchoGorge$Gorge" 54 ⟨"EchoGorge$Gorge","clear","()V"⟩) : Cond) ∈ GW := tw1 (List.mem_of_getElem? (i := 41) rfl) rfl
theorem we42 : ((Jvm.Cond.instanceMethod ⟨"EchoGorge$Gorge","clear","()V"⟩) : Cond) ∈ GW := tw1 (List.mem_of_getElem? (i := 42) rfl) rfl
theorem we43 : ((Jvm.Cond.selects "EchoGorge$Gorge" ⟨"EchoGorge$Gorge","clear","()V"⟩ ⟨"EchoGorge$Gorge","clear","()V"⟩) : Cond) ∈ GW := tw1 (List.mem_of_getElem? (i := 43) rfl) rfl
theorem we44 : ((Jvm.Cond.code ⟨"EchoGorge$Gorge","clear","()V"⟩ prog_4_method_2_code 1 (Option.none : Option Jvm.ClassFile.FieldType)) : Cond) ∈ GW := tw1 (List.mem_of_getElem? (i := 44) rfl) rfl
theorem we45 : ((Jvm.Cond.methodLink "EchoGorge$Gorge" 79 ⟨"java/util/Arrays","fill","([II)V"⟩) : Cond) ∈ GW := tw1 (List.mem_of_getElem? (i := 45) rfl) rfl
theorem we46 : ((Jvm.Cond.static ⟨"java/util/Arrays","fill","([II)V"⟩) : Cond) ∈ GW := tw1 (List.mem_of_getElem? (i := 46) rfl) rfl
theorem we47 : ((Jvm.Cond.code ⟨"java/util/Arrays","fill","([II)V"⟩ prog_30_method_103_code 4 (Option.none : Option Jvm.ClassFile.FieldType)) : Cond) ∈ GW := tw1 (List.mem_of_getElem? (i := 47) rfl) rfl
theorem we48 : ((Jvm.Cond.fieldLink "EchoGorge$Gorge" 57 "EchoGorge$Gorge" "sounds" "I") : Cond) ∈ GW := tw1 (List.mem_of_getElem? (i := 48) rfl) rfl
theorem we54 : ((Jvm.Cond.fieldLink "EchoGorge$Gorge" 61 "EchoGorge$Gorge" "walls" "I") : Cond) ∈ GW := tw1 (List.mem_of_getElem? (i := 54) rfl) rfl
theorem we59 : ((Jvm.Cond.fieldLink "EchoGorge$Gorge" 64 "EchoGorge$Gorge" "words" "I") : Cond) ∈ GW := tw1 (List.mem_of_getElem? (i := 59) rfl) rfl
theorem we63 : ((Jvm.Cond.fieldLink "EchoGorge$Gorge" 67 "EchoGorge$Gorge" "forms" "I") : Cond) ∈ GW := tw1 (List.mem_of_getElem? (i := 63) rfl) rfl
theorem we67 : ((Jvm.Cond.fieldLink "EchoGorge$Gorge" 70 "EchoGorge$Gorge" "least" "I") : Cond) ∈ GW := tw1 (List.mem_of_getElem? (i := 67) rfl) rfl
theorem we73 : ((Jvm.Cond.fieldLink "EchoGorge$Gorge" 73 "EchoGorge$Gorge" "window" "I") : Cond) ∈ GW := tw1 (List.mem_of_getElem? (i := 73) rfl) rfl
theorem we78 : ((Jvm.Cond.fieldLink "EchoGorge$Gorge" 76 "EchoGorge$Gorge" "margin" "I") : Cond) ∈ GW := tw1 (List.mem_of_getElem? (i := 78) rfl) rfl
theorem we82 : ((Jvm.Cond.fieldLink "EchoGorge$Gorge" 9 "EchoGorge$Gorge" "loud" "[I") : Cond) ∈ GW := tw1 (List.mem_of_getElem? (i := 82) rfl) rfl
theorem we86 : ((Jvm.Cond.fieldLink "EchoGorge$Gorge" 15 "EchoGorge$Gorge" "sort" "[I") : Cond) ∈ GW := tw1 (List.mem_of_getElem? (i := 86) rfl) rfl
theorem we88 : ((Jvm.Cond.fieldLink "EchoGorge$Gorge" 18 "EchoGorge$Gorge" "sweet" "[I") : Cond) ∈ GW := tw1 (List.mem_of_getElem? (i := 88) rfl) rfl
theorem we91 : ((Jvm.Cond.fieldLink "EchoGorge$Gorge" 21 "EchoGorge$Gorge" "delay" "[I") : Cond) ∈ GW := tw1 (List.mem_of_getElem? (i := 91) rfl) rfl
theorem we95 : ((Jvm.Cond.fieldLink "EchoGorge$Gorge" 24 "EchoGorge$Gorge" "share" "[I") : Cond) ∈ GW := tw1 (List.mem_of_getElem? (i := 95) rfl) rfl
theorem we98 : ((Jvm.Cond.fieldLink "EchoGorge$Gorge" 27 "EchoGorge$Gorge" "swallows" "[I") : Cond) ∈ GW := tw1 (List.mem_of_getElem? (i := 98) rfl) rfl
theorem we101 : ((Jvm.Cond.fieldLink "EchoGorge$Gorge" 30 "EchoGorge$Gorge" "again" "[I") : Cond) ∈ GW := tw1 (List.mem_of_getElem? (i := 101) rfl) rfl
theorem we105 : ((Jvm.Cond.fieldLink "EchoGorge$Gorge" 33 "EchoGorge$Gorge" "straight" "[I") : Cond) ∈ GW := tw1 (List.mem_of_getElem? (i := 105) rfl) rfl
theorem we108 : ((Jvm.Cond.fieldLink "EchoGorge$Gorge" 36 "EchoGorge$Gorge" "air" "[I") : Cond) ∈ GW := tw1 (List.mem_of_getElem? (i := 108) rfl) rfl
theorem we113 : ((Jvm.Cond.fieldLink "EchoGorge$Gorge" 39 "EchoGorge$Gorge" "kind" "[I") : Cond) ∈ GW := tw1 (List.mem_of_getElem? (i := 113) rfl) rfl
theorem we117 : ((Jvm.Cond.fieldLink "EchoGorge$Gorge" 42 "EchoGorge$Gorge" "length" "[I") : Cond) ∈ GW := tw1 (List.mem_of_getElem? (i := 117) rfl) rfl
theorem we121 : ((Jvm.Cond.fieldLink "EchoGorge$Gorge" 45 "EchoGorge$Gorge" "spelling" "[I") : Cond) ∈ GW := tw1 (List.mem_of_getElem? (i := 121) rfl) rfl
theorem we125 : ((Jvm.Cond.fieldLink "EchoGorge$Gorge" 48 "EchoGorge$Gorge" "formLength" "[I") : Cond) ∈ GW := tw1 (List.mem_of_getElem? (i := 125) rfl) rfl
theorem we128 : ((Jvm.Cond.fieldLink "EchoGorge$Gorge" 51 "EchoGorge$Gorge" "formKind" "[I") : Cond) ∈ GW := tw1 (List.mem_of_getElem? (i := 128) rfl) rfl
theorem we174 : ((Jvm.Cond.arrayClass Jvm.ClassFile.FieldType.byte) : Cond) ∈ GW := tw1 (List.mem_of_getElem? (i := 174) rfl) rfl
theorem we175 : ((Jvm.Cond.arrayClass Jvm.ClassFile.FieldType.int) : Cond) ∈ GW := tw1 (List.mem_of_getElem? (i := 175) rfl) rfl
theorem we176 : ((Jvm.Cond.classLink "EchoGorge" 34 "EchoGorge$Scene") : Cond) ∈ GW := tw1 (List.mem_of_getElem? (i := 176) rfl) rfl
theorem we177 : ((Jvm.Cond.instantiable "EchoGorge$Scene" 8) : Cond) ∈ GW := tw1 (List.mem_of_getElem? (i := 177) rfl) rfl
theorem we178 : ((Jvm.Cond.methodLink "EchoGorge" 36 ⟨"EchoGorge$Scene","<init>","()V"⟩) : Cond) ∈ GW := tw1 (List.mem_of_getElem? (i := 178) rfl) rfl
theorem we179 : ((Jvm.Cond.instanceMethod ⟨"EchoGorge$Scene","<init>","()V"⟩) : Cond) ∈ GW := tw1 (List.mem_of_getElem? (i := 179) rfl) rfl
theorem we180 : ((Jvm.Cond.code ⟨"EchoGorge$Scene","<init>","()V"⟩ prog_10_method_1_code 1 (Option.none : Option Jvm.ClassFile.FieldType)) : Cond) ∈ GW := tw1 (List.mem_of_getElem? (i := 180) rfl) rfl
theorem we181 : ((Jvm.Cond.methodLink "EchoGorge$Scene" 3 objectInit) : Cond) ∈ GW := tw1 (List.mem_of_getElem? (i := 181) rfl) rfl
theorem we182 : ((Jvm.Cond.methodLink "EchoGorge$Scene" 27 ⟨"EchoGorge$Scene","clear","()V"⟩) : Cond) ∈ GW := tw1 (List.mem_of_getElem? (i := 182) rfl) rfl
theorem we183 : ((Jvm.Cond.instanceMethod ⟨"EchoGorge$Scene","clear","()V"⟩) : Cond) ∈ GW := tw1 (List.mem_of_getElem? (i := 183) rfl) rfl
theorem we184 : ((Jvm.Cond.selects "EchoGorge$Scene" ⟨"EchoGorge$Scene","clear","()V"⟩ ⟨"EchoGorge$Scene","clear","()V"⟩) : Cond) ∈ GW := tw1 (List.mem_of_getElem? (i := 184) rfl) rfl
theorem we185 : ((Jvm.Cond.code ⟨"EchoGorge$Scene","clear","()V"⟩ prog_10_method_2_code 1 (Option.none : Option Jvm.ClassFile.FieldType)) : Cond) ∈ GW := tw1 (List.mem_of_getElem? (i := 185) rfl) rfl
theorem we186 : ((Jvm.Cond.methodLink "EchoGorge$Scene" 30 ⟨"EchoGorge$Scene","clearSaid","()V"⟩) : Cond) ∈ GW := tw1 (List.mem_of_getElem? (i := 186) rfl) rfl
theorem we187 : ((Jvm.Cond.instanceMethod ⟨"EchoGorge$Scene","clearSaid","()V"⟩) : Cond) ∈ GW := tw1 (List.mem_of_getElem? (i := 187) rfl) rfl
theorem we188 : ((Jvm.Cond.selects "EchoGorge$Scene" ⟨"EchoGorge$Scene","clearSaid","()V"⟩ ⟨"EchoGorge$Scene","clearSaid","()V"⟩) : Cond) ∈ GW := tw1 (List.mem_of_getElem? (i := 188) rfl) rfl
theorem we189 : ((Jvm.Cond.code ⟨"EchoGorge$Scene","clearSaid","()V"⟩ prog_10_method_3_code 1 (Option.none : Option Jvm.ClassFile.FieldType)) : Cond) ∈ GW := tw1 (List.mem_of_getElem? (i := 189) rfl) rfl
theorem we190 : ((Jvm.Cond.methodLink "EchoGorge$Scene" 36 ⟨"java/util/Arrays","fill","([II)V"⟩) : Cond) ∈ GW := tw1 (List.mem_of_getElem? (i := 190) rfl) rfl
theorem we191 : ((Jvm.Cond.methodLink "EchoGorge$Scene" 33 ⟨"EchoGorge$Scene","clearTold","()V"⟩) : Cond) ∈ GW := tw1 (List.mem_of_getElem? (i := 191) rfl) rfl
theorem we192 : ((Jvm.Cond.instanceMethod ⟨"EchoGorge$Scene","clearTold","()V"⟩) : Cond) ∈ GW := tw1 (List.mem_of_getElem? (i := 192) rfl) rfl
theorem we193 : ((Jvm.Cond.selects "EchoGorge$Scene" ⟨"EchoGorge$Scene","clearTold","()V"⟩ ⟨"EchoGorge$Scene","clearTold","()V"⟩) : Cond) ∈ GW := tw1 (List.mem_of_getElem? (i := 193) rfl) rfl
theorem we194 : ((Jvm.Cond.code ⟨"EchoGorge$Scene","clearTold","()V"⟩ prog_10_method_4_code 1 (Option.none : Option Jvm.ClassFile.FieldType)) : Cond) ∈ GW := tw1 (List.mem_of_getElem? (i := 194) rfl) rfl
theorem we195 : ((Jvm.Cond.fieldLink "EchoGorge$Scene" 9 "EchoGorge$Scene" "said" "[I") : Cond) ∈ GW := tw1 (List.mem_of_getElem? (i := 195) rfl) rfl
theorem we198 : ((Jvm.Cond.fieldLink "EchoGorge$Scene" 46 "EchoGorge$Scene" "saidMany" "I") : Cond) ∈ GW := tw1 (List.mem_of_getElem? (i := 198) rfl) rfl
theorem we200 : ((Jvm.Cond.fieldLink "EchoGorge$Scene" 15 "EchoGorge$Scene" "told" "[I") : Cond) ∈ GW := tw1 (List.mem_of_getElem? (i := 200) rfl) rfl
theorem we204 : ((Jvm.Cond.fieldLink "EchoGorge$Scene" 49 "EchoGorge$Scene" "toldMany" "I") : Cond) ∈ GW := tw1 (List.mem_of_getElem? (i := 204) rfl) rfl
theorem we206 : ((Jvm.Cond.fieldLink "EchoGorge$Scene" 18 "EchoGorge$Scene" "round" "[I") : Cond) ∈ GW := tw1 (List.mem_of_getElem? (i := 206) rfl) rfl
theorem we209 : ((Jvm.Cond.fieldLink "EchoGorge$Scene" 42 "EchoGorge$Scene" "roundLength" "I") : Cond) ∈ GW := tw1 (List.mem_of_getElem? (i := 209) rfl) rfl
theorem we212 : ((Jvm.Cond.fieldLink "EchoGorge$Scene" 21 "EchoGorge$Scene" "earX" "[I") : Cond) ∈ GW := tw1 (List.mem_of_getElem? (i := 212) rfl) rfl
theorem we215 : ((Jvm.Cond.fieldLink "EchoGorge$Scene" 24 "EchoGorge$Scene" "earY" "[I") : Cond) ∈ GW := tw1 (List.mem_of_getElem? (i := 215) rfl) rfl
theorem we235 : ((Jvm.Cond.classLink "EchoGorge" 48 "EchoGorge$Reader") : Cond) ∈ GW := tw1 (List.mem_of_getElem? (i := 235) rfl) rfl
theorem we236 : ((Jvm.Cond.instantiable "EchoGorge$Reader" 12) : Cond) ∈ GW := tw1 (List.mem_of_getElem? (i := 236) rfl) rfl
theorem we238 : ((Jvm.Cond.instanceMethod ⟨"EchoGorge$Reader","<init>","()V"⟩) : Cond) ∈ GW := tw1 (List.mem_of_getElem? (i := 238) rfl) rfl
theorem we239 : ((Jvm.Cond.code ⟨"EchoGorge$Reader","<init>","()V"⟩ prog_8_method_1_code 1 (Option.none : Option Jvm.ClassFile.FieldType)) : Cond) ∈ GW := tw1 (List.mem_of_getElem? (i := 239) rfl) rfl
theorem we240 : ((Jvm.Cond.methodLink "EchoGorge$Reader" 3 objectInit) : Cond) ∈ GW := tw2 (List.mem_of_getElem? (i := 0) rfl) rfl
theorem we279 : ((Jvm.Cond.classLink "EchoGorge" 55 "EchoGorge$Returns") : Cond) ∈ GW := tw2 (List.mem_of_getElem? (i := 39) rfl) rfl
theorem we280 : ((Jvm.Cond.instantiable "EchoGorge$Returns" 9) : Cond) ∈ GW := tw2 (List.mem_of_getElem? (i := 40) rfl) rfl
theorem we282 : ((Jvm.Cond.instanceMethod ⟨"EchoGorge$Returns","<init>","()V"⟩) : Cond) ∈ GW := tw2 (List.mem_of_getElem? (i := 42) rfl) rfl
theorem we283 : ((Jvm.Cond.code ⟨"EchoGorge$Returns","<init>","()V"⟩ prog_9_method_1_code 1 (Option.none : Option Jvm.ClassFile.FieldType)) : Cond) ∈ GW := tw2 (List.mem_of_getElem? (i := 43) rfl) rfl
theorem we284 : ((Jvm.Cond.methodLink "EchoGorge$Returns" 3 objectInit) : Cond) ∈ GW := tw2 (List.mem_of_getElem? (i := 44) rfl) rfl
theorem we285 : ((Jvm.Cond.fieldLink "EchoGorge$Returns" 11 "EchoGorge$Returns" "later" "[I") : Cond) ∈ GW := tw2 (List.mem_of_getElem? (i := 45) rfl) rfl
theorem we288 : ((Jvm.Cond.fieldLink "EchoGorge$Returns" 15 "EchoGorge$Returns" "loud" "[I") : Cond) ∈ GW := tw2 (List.mem_of_getElem? (i := 48) rfl) rfl
theorem we295 : ((Jvm.Cond.fieldLink "EchoGorge$Returns" 18 "EchoGorge$Returns" "fading" "[I") : Cond) ∈ GW := tw2 (List.mem_of_getElem? (i := 55) rfl) rfl
theorem we320 : ((Jvm.Cond.classLink "EchoGorge" 62 "EchoGorge$Hearing") : Cond) ∈ GW := tw2 (List.mem_of_getElem? (i := 80) rfl) rfl
theorem we321 : ((Jvm.Cond.instantiable "EchoGorge$Hearing" 9) : Cond) ∈ GW := tw2 (List.mem_of_getElem? (i := 81) rfl) rfl
theorem we323 : ((Jvm.Cond.instanceMethod ⟨"EchoGorge$Hearing","<init>","()V"⟩) : Cond) ∈ GW := tw2 (List.mem_of_getElem? (i := 83) rfl) rfl
theorem we324 : ((Jvm.Cond.code ⟨"EchoGorge$Hearing","<init>","()V"⟩ prog_6_method_1_code 1 (Option.none : Option Jvm.ClassFile.FieldType)) : Cond) ∈ GW := tw2 (List.mem_of_getElem? (i := 84) rfl) rfl
theorem we325 : ((Jvm.Cond.methodLink "EchoGorge$Hearing" 3 objectInit) : Cond) ∈ GW := tw2 (List.mem_of_getElem? (i := 85) rfl) rfl
theorem we326 : ((Jvm.Cond.fieldLink "EchoGorge$Hearing" 9 "EchoGorge$Hearing" "best" "[I") : Cond) ∈ GW := tw2 (List.mem_of_getElem? (i := 86) rfl) rfl
theorem we327 : ((Jvm.Cond.fieldLink "EchoGorge$Hearing" 15 "EchoGorge$Hearing" "whose" "[I") : Cond) ∈ GW := tw2 (List.mem_of_getElem? (i := 87) rfl) rfl
theorem we328 : ((Jvm.Cond.fieldLink "EchoGorge$Hearing" 18 "EchoGorge$Hearing" "sum" "[I") : Cond) ∈ GW := tw2 (List.mem_of_getElem? (i := 88) rfl) rfl
theorem we354 : ((Jvm.Cond.classLink "EchoGorge" 69 "EchoGorge$Verses") : Cond) ∈ GW := tw2 (List.mem_of_getElem? (i := 114) rfl) rfl
theorem we355 : ((Jvm.Cond.instantiable "EchoGorge$Verses" 16) : Cond) ∈ GW := tw2 (List.mem_of_getElem? (i := 115) rfl) rfl
theorem we356 : ((Jvm.Cond.methodLink "EchoGorge" 71 ⟨"EchoGorge$Verses","<init>","()V"⟩) : Cond) ∈ GW := tw2 (List.mem_of_getElem? (i := 116) rfl) rfl
theorem we357 : ((Jvm.Cond.instanceMethod ⟨"EchoGorge$Verses","<init>","()V"⟩) : Cond) ∈ GW := tw2 (List.mem_of_getElem? (i := 117) rfl) rfl
theorem we358 : ((Jvm.Cond.code ⟨"EchoGorge$Verses","<init>","()V"⟩ prog_12_method_1_code 1 (Option.none : Option Jvm.ClassFile.FieldType)) : Cond) ∈ GW := tw2 (List.mem_of_getElem? (i := 118) rfl) rfl
theorem we359 : ((Jvm.Cond.methodLink "EchoGorge$Verses" 5 objectInit) : Cond) ∈ GW := tw2 (List.mem_of_getElem? (i := 119) rfl) rfl
theorem we360 : ((Jvm.Cond.classLink "EchoGorge$Verses" 11 "EchoGorge$Gorge") : Cond) ∈ GW := tw2 (List.mem_of_getElem? (i := 120) rfl) rfl
theorem we361 : ((Jvm.Cond.methodLink "EchoGorge$Verses" 13 ⟨"EchoGorge$Gorge","<init>","()V"⟩) : Cond) ∈ GW := tw2 (List.mem_of_getElem? (i := 121) rfl) rfl
theorem we362 : ((Jvm.Cond.methodLink "EchoGorge$Verses" 46 ⟨"java/util/Arrays","fill","([II)V"⟩) : Cond) ∈ GW := tw2 (List.mem_of_getElem? (i := 122) rfl) rfl
theorem we363 : ((Jvm.Cond.fieldLink "EchoGorge$Verses" 14 "EchoGorge$Verses" "gorge" "LEchoGorge$Gorge;") : Cond) ∈ GW := tw2 (List.mem_of_getElem? (i := 123) rfl) rfl
theorem we370 : ((Jvm.Cond.fieldLink "EchoGorge$Verses" 18 "EchoGorge$Verses" "kindMany" "[I") : Cond) ∈ GW := tw2 (List.mem_of_getElem? (i := 130) rfl) rfl
theorem we371 : ((Jvm.Cond.fieldLink "EchoGorge$Verses" 22 "EchoGorge$Verses" "ofKind" "[I") : Cond) ∈ GW := tw2 (List.mem_of_getElem? (i := 131) rfl) rfl
theorem we372 : ((Jvm.Cond.fieldLink "EchoGorge$Verses" 25 "EchoGorge$Verses" "formLines" "[I") : Cond) ∈ GW := tw2 (List.mem_of_getElem? (i := 132) rfl) rfl
theorem we373 : ((Jvm.Cond.fieldLink "EchoGorge$Verses" 28 "EchoGorge$Verses" "figures" "[I") : Cond) ∈ GW := tw2 (List.mem_of_getElem? (i := 133) rfl) rfl
theorem we374 : ((Jvm.Cond.fieldLink "EchoGorge$Verses" 31 "EchoGorge$Verses" "answers" "[I") : Cond) ∈ GW := tw2 (List.mem_of_getElem? (i := 134) rfl) rfl
theorem we375 : ((Jvm.Cond.fieldLink "EchoGorge$Verses" 34 "EchoGorge$Verses" "row" "[I") : Cond) ∈ GW := tw2 (List.mem_of_getElem? (i := 135) rfl) rfl
theorem we376 : ((Jvm.Cond.fieldLink "EchoGorge$Verses" 37 "EchoGorge$Verses" "said" "[I") : Cond) ∈ GW := tw2 (List.mem_of_getElem? (i := 136) rfl) rfl
theorem we378 : ((Jvm.Cond.fieldLink "EchoGorge$Verses" 40 "EchoGorge$Verses" "heard" "[I") : Cond) ∈ GW := tw2 (List.mem_of_getElem? (i := 138) rfl) rfl
theorem we380 : ((Jvm.Cond.fieldLink "EchoGorge$Verses" 43 "EchoGorge$Verses" "fits" "[I") : Cond) ∈ GW := tw2 (List.mem_of_getElem? (i := 140) rfl) rfl
theorem we414 : ((Jvm.Cond.classLink "EchoGorge" 76 "EchoGorge$Chant") : Cond) ∈ GW := tw2 (List.mem_of_getElem? (i := 174) rfl) rfl
theorem we415 : ((Jvm.Cond.instantiable "EchoGorge$Chant" 1) : Cond) ∈ GW := tw2 (List.mem_of_getElem? (i := 175) rfl) rfl
theorem we417 : ((Jvm.Cond.instanceMethod ⟨"EchoGorge$Chant","<init>","()V"⟩) : Cond) ∈ GW := tw2 (List.mem_of_getElem? (i := 177) rfl) rfl
theorem we418 : ((Jvm.Cond.code ⟨"EchoGorge$Chant","<init>","()V"⟩ prog_2_method_1_code 1 (Option.none : Option Jvm.ClassFile.FieldType)) : Cond) ∈ GW := tw2 (List.mem_of_getElem? (i := 178) rfl) rfl
theorem we419 : ((Jvm.Cond.methodLink "EchoGorge$Chant" 3 objectInit) : Cond) ∈ GW := tw2 (List.mem_of_getElem? (i := 179) rfl) rfl
theorem we420 : ((Jvm.Cond.fieldLink "EchoGorge$Chant" 9 "EchoGorge$Chant" "sum" "[I") : Cond) ∈ GW := tw2 (List.mem_of_getElem? (i := 180) rfl) rfl
theorem we424 : ((Jvm.Cond.classLink "EchoGorge" 83 "EchoGorge$Guess") : Cond) ∈ GW := tw2 (List.mem_of_getElem? (i := 184) rfl) rfl
theorem we425 : ((Jvm.Cond.instantiable "EchoGorge$Guess" 8) : Cond) ∈ GW := tw2 (List.mem_of_getElem? (i := 185) rfl) rfl
theorem we427 : ((Jvm.Cond.instanceMethod ⟨"EchoGorge$Guess","<init>","()V"⟩) : Cond) ∈ GW := tw2 (List.mem_of_getElem? (i := 187) rfl) rfl
theorem we428 : ((Jvm.Cond.code ⟨"EchoGorge$Guess","<init>","()V"⟩ prog_5_method_1_code 1 (Option.none : Option Jvm.ClassFile.FieldType)) : Cond) ∈ GW := tw2 (List.mem_of_getElem? (i := 188) rfl) rfl
theorem we429 : ((Jvm.Cond.methodLink "EchoGorge$Guess" 3 objectInit) : Cond) ∈ GW := tw2 (List.mem_of_getElem? (i := 189) rfl) rfl
theorem we430 : ((Jvm.Cond.classLink "EchoGorge$Guess" 15 "EchoGorge$Returns") : Cond) ∈ GW := tw2 (List.mem_of_getElem? (i := 190) rfl) rfl
theorem we432 : ((Jvm.Cond.fieldLink "EchoGorge$Guess" 9 "EchoGorge$Guess" "answer" "[I") : Cond) ∈ GW := tw2 (List.mem_of_getElem? (i := 192) rfl) rfl
theorem we434 : ((Jvm.Cond.fieldLink "EchoGorge$Guess" 18 "EchoGorge$Guess" "returns" "LEchoGorge$Returns;") : Cond) ∈ GW := tw2 (List.mem_of_getElem? (i := 194) rfl) rfl
theorem we458 : ((Jvm.Cond.classLink "EchoGorge" 90 "EchoGorge$Truth") : Cond) ∈ GW := tw2 (List.mem_of_getElem? (i := 218) rfl) rfl
theorem we459 : ((Jvm.Cond.instantiable "EchoGorge$Truth" 9) : Cond) ∈ GW := tw2 (List.mem_of_getElem? (i := 219) rfl) rfl
theorem we461 : ((Jvm.Cond.instanceMethod ⟨"EchoGorge$Truth","<init>","()V"⟩) : Cond) ∈ GW := tw2 (List.mem_of_getElem? (i := 221) rfl) rfl
theorem we462 : ((Jvm.Cond.code ⟨"EchoGorge$Truth","<init>","()V"⟩ prog_11_method_1_code 1 (Option.none : Option Jvm.ClassFile.FieldType)) : Cond) ∈ GW := tw2 (List.mem_of_getElem? (i := 222) rfl) rfl
theorem we463 : ((Jvm.Cond.methodLink "EchoGorge$Truth" 3 objectInit) : Cond) ∈ GW := tw2 (List.mem_of_getElem? (i := 223) rfl) rfl
theorem we464 : ((Jvm.Cond.fieldLink "EchoGorge$Truth" 9 "EchoGorge$Truth" "answer" "[I") : Cond) ∈ GW := tw2 (List.mem_of_getElem? (i := 224) rfl) rfl
theorem we467 : ((Jvm.Cond.fieldLink "EchoGorge$Truth" 15 "EchoGorge$Truth" "said" "[I") : Cond) ∈ GW := tw2 (List.mem_of_getElem? (i := 227) rfl) rfl
theorem we468 : ((Jvm.Cond.fieldLink "EchoGorge$Truth" 18 "EchoGorge$Truth" "spots" "[I") : Cond) ∈ GW := tw2 (List.mem_of_getElem? (i := 228) rfl) rfl
theorem we493 : ((Jvm.Cond.classLink "EchoGorge" 97 "EchoGorge$Places") : Cond) ∈ GW := tw3 (List.mem_of_getElem? (i := 13) rfl) rfl
theorem we494 : ((Jvm.Cond.instantiable "EchoGorge$Places" 2) : Cond) ∈ GW := tw3 (List.mem_of_getElem? (i := 14) rfl) rfl
theorem we495 : ((Jvm.Cond.methodLink "EchoGorge" 99 ⟨"EchoGorge$Places","<init>","()V"⟩) : Cond) ∈ GW := tw3 (List.mem_of_getElem? (i := 15) rfl) rfl
theorem we496 : ((Jvm.Cond.instanceMethod ⟨"EchoGorge$Places","<init>","()V"⟩) : Cond) ∈ GW := tw3 (List.mem_of_getElem? (i := 16) rfl) rfl
theorem we497 : ((Jvm.Cond.code ⟨"EchoGorge$Places","<init>","()V"⟩ prog_7_method_1_code 4 (Option.none : Option Jvm.ClassFile.FieldType)) : Cond) ∈ GW := tw3 (List.mem_of_getElem? (i := 17) rfl) rfl
theorem we498 : ((Jvm.Cond.methodLink "EchoGorge$Places" 3 objectInit) : Cond) ∈ GW := tw3 (List.mem_of_getElem? (i := 18) rfl) rfl
theorem we499 : ((Jvm.Cond.fieldLink "EchoGorge$Places" 9 "EchoGorge$Places" "ticks" "[I") : Cond) ∈ GW := tw3 (List.mem_of_getElem? (i := 19) rfl) rfl
theorem we500 : ((Jvm.Cond.fieldLink "EchoGorge$Places" 15 "EchoGorge$Places" "ahead" "[I") : Cond) ∈ GW := tw3 (List.mem_of_getElem? (i := 20) rfl) rfl
theorem we506 : ((Jvm.Cond.classLink "EchoGorge" 104 "EchoGorge$Claps") : Cond) ∈ GW := tw3 (List.mem_of_getElem? (i := 26) rfl) rfl
theorem we507 : ((Jvm.Cond.instantiable "EchoGorge$Claps" 5) : Cond) ∈ GW := tw3 (List.mem_of_getElem? (i := 27) rfl) rfl
theorem we509 : ((Jvm.Cond.instanceMethod ⟨"EchoGorge$Claps","<init>","()V"⟩) : Cond) ∈ GW := tw3 (List.mem_of_getElem? (i := 29) rfl) rfl
theorem we510 : ((Jvm.Cond.code ⟨"EchoGorge$Claps","<init>","()V"⟩ prog_3_method_1_code 1 (Option.none : Option Jvm.ClassFile.FieldType)) : Cond) ∈ GW := tw3 (List.mem_of_getElem? (i := 30) rfl) rfl
theorem we511 : ((Jvm.Cond.methodLink "EchoGorge$Claps" 3 objectInit) : Cond) ∈ GW := tw3 (List.mem_of_getElem? (i := 31) rfl) rfl
theorem we512 : ((Jvm.Cond.fieldLink "EchoGorge$Claps" 9 "EchoGorge$Claps" "together" "[I") : Cond) ∈ GW := tw3 (List.mem_of_getElem? (i := 32) rfl) rfl
theorem we514 : ((Jvm.Cond.fieldLink "EchoGorge$Claps" 15 "EchoGorge$Claps" "said" "[I") : Cond) ∈ GW := tw3 (List.mem_of_getElem? (i := 34) rfl) rfl
theorem we529 : ((Jvm.Cond.fieldLink "EchoGorge" 9 "EchoGorge" "tape" "[B") : Cond) ∈ GW := tw3 (List.mem_of_getElem? (i := 49) rfl) rfl
theorem we530 : ((Jvm.Cond.fieldLink "EchoGorge" 13 "EchoGorge" "taped" "I") : Cond) ∈ GW := tw3 (List.mem_of_getElem? (i := 50) rfl) rfl
theorem we531 : ((Jvm.Cond.fieldLink "EchoGorge" 17 "EchoGorge" "faultPlace" "I") : Cond) ∈ GW := tw3 (List.mem_of_getElem? (i := 51) rfl) rfl
theorem we532 : ((Jvm.Cond.fieldLink "EchoGorge" 20 "EchoGorge" "refused" "[I") : Cond) ∈ GW := tw3 (List.mem_of_getElem? (i := 52) rfl) rfl
theorem we533 : ((Jvm.Cond.fieldLink "EchoGorge" 27 "EchoGorge" "now" "LEchoGorge$Gorge;") : Cond) ∈ GW := tw3 (List.mem_of_getElem? (i := 53) rfl) rfl
theorem we534 : ((Jvm.Cond.fieldLink "EchoGorge" 31 "EchoGorge" "spare" "LEchoGorge$Gorge;") : Cond) ∈ GW := tw3 (List.mem_of_getElem? (i := 54) rfl) rfl
theorem we535 : ((Jvm.Cond.fieldLink "EchoGorge" 37 "EchoGorge" "scene" "LEchoGorge$Scene;") : Cond) ∈ GW := tw3 (List.mem_of_getElem? (i := 55) rfl) rfl
theorem we536 : ((Jvm.Cond.fieldLink "EchoGorge" 41 "EchoGorge" "kept" "LEchoGorge$Scene;") : Cond) ∈ GW := tw3 (List.mem_of_getElem? (i := 56) rfl) rfl
theorem we537 : ((Jvm.Cond.fieldLink "EchoGorge" 44 "EchoGorge" "isKept" "Z") : Cond) ∈ GW := tw3 (List.mem_of_getElem? (i := 57) rfl) rfl
theorem we538 : ((Jvm.Cond.fieldLink "EchoGorge" 51 "EchoGorge" "reader" "LEchoGorge$Reader;") : Cond) ∈ GW := tw3 (List.mem_of_getElem? (i := 58) rfl) rfl
theorem we539 : ((Jvm.Cond.fieldLink "EchoGorge" 58 "EchoGorge" "returns" "LEchoGorge$Returns;") : Cond) ∈ GW := tw3 (List.mem_of_getElem? (i := 59) rfl) rfl
theorem we540 : ((Jvm.Cond.fieldLink "EchoGorge" 65 "EchoGorge" "hearing" "LEchoGorge$Hearing;") : Cond) ∈ GW := tw3 (List.mem_of_getElem? (i := 60) rfl) rfl
theorem we541 : ((Jvm.Cond.fieldLink "EchoGorge" 72 "EchoGorge" "verses" "LEchoGorge$Verses;") : Cond) ∈ GW := tw3 (List.mem_of_getElem? (i := 61) rfl) rfl
theorem we542 : ((Jvm.Cond.fieldLink "EchoGorge" 79 "EchoGorge" "chant" "LEchoGorge$Chant;") : Cond) ∈ GW := tw3 (List.mem_of_getElem? (i := 62) rfl) rfl
theorem we543 : ((Jvm.Cond.fieldLink "EchoGorge" 86 "EchoGorge" "guess" "LEchoGorge$Guess;") : Cond) ∈ GW := tw3 (List.mem_of_getElem? (i := 63) rfl) rfl
theorem we544 : ((Jvm.Cond.fieldLink "EchoGorge" 93 "EchoGorge" "truth" "LEchoGorge$Truth;") : Cond) ∈ GW := tw3 (List.mem_of_getElem? (i := 64) rfl) rfl
theorem we545 : ((Jvm.Cond.fieldLink "EchoGorge" 100 "EchoGorge" "places" "LEchoGorge$Places;") : Cond) ∈ GW := tw3 (List.mem_of_getElem? (i := 65) rfl) rfl
theorem we546 : ((Jvm.Cond.fieldLink "EchoGorge" 107 "EchoGorge" "claps" "LEchoGorge$Claps;") : Cond) ∈ GW := tw3 (List.mem_of_getElem? (i := 66) rfl) rfl
theorem we1314 : ((Jvm.Cond.methodLink "EchoGorgeModel" 1 objectInit) : Cond) ∈ GW := tw6 (List.mem_of_getElem? (i := 114) rfl) rfl
theorem we1320 : ((Jvm.Cond.fieldLink "EchoGorgeModel" 7 "EchoGorgeModel" "least" "I") : Cond) ∈ GW := tw6 (List.mem_of_getElem? (i := 120) rfl) rfl
theorem we1323 : ((Jvm.Cond.fieldLink "EchoGorgeModel" 13 "EchoGorgeModel" "sound" "[I") : Cond) ∈ GW := tw6 (List.mem_of_getElem? (i := 123) rfl) rfl
theorem we1324 : ((Jvm.Cond.fieldLink "EchoGorgeModel" 17 "EchoGorgeModel" "wall" "[I") : Cond) ∈ GW := tw6 (List.mem_of_getElem? (i := 124) rfl) rfl
theorem we1325 : ((Jvm.Cond.fieldLink "EchoGorgeModel" 20 "EchoGorgeModel" "word" "[I") : Cond) ∈ GW := tw6 (List.mem_of_getElem? (i := 125) rfl) rfl
theorem we1326 : ((Jvm.Cond.fieldLink "EchoGorgeModel" 23 "EchoGorgeModel" "form" "[I") : Cond) ∈ GW := tw6 (List.mem_of_getElem? (i := 126) rfl) rfl
theorem we1327 : ((Jvm.Cond.fieldLink "EchoGorgeModel" 26 "EchoGorgeModel" "straight" "[I") : Cond) ∈ GW := tw6 (List.mem_of_getElem? (i := 127) rfl) rfl
theorem we1328 : ((Jvm.Cond.fieldLink "EchoGorgeModel" 29 "EchoGorgeModel" "air" "[I") : Cond) ∈ GW := tw6 (List.mem_of_getElem? (i := 128) rfl) rfl
theorem we1329 : ((Jvm.Cond.fieldLink "EchoGorgeModel" 32 "EchoGorgeModel" "sweet" "[I") : Cond) ∈ GW := tw6 (List.mem_of_getElem? (i := 129) rfl) rfl
theorem we1330 : ((Jvm.Cond.fieldLink "EchoGorgeModel" 35 "EchoGorgeModel" "tape" "[I") : Cond) ∈ GW := tw6 (List.mem_of_getElem? (i := 130) rfl) rfl
theorem we1333 : ((Jvm.Cond.fieldLink "EchoGorgeModel" 38 "EchoGorgeModel" "faultPlace" "I") : Cond) ∈ GW := tw6 (List.mem_of_getElem? (i := 133) rfl) rfl
theorem we1334 : ((Jvm.Cond.fieldLink "EchoGorgeModel" 41 "EchoGorgeModel" "refused" "[I") : Cond) ∈ GW := tw6 (List.mem_of_getElem? (i := 134) rfl) rfl
theorem we1352 : ((Jvm.Cond.fieldLink "EchoGorgeModel" 44 "EchoGorgeModel" "newSound" "[I") : Cond) ∈ GW := tw6 (List.mem_of_getElem? (i := 152) rfl) rfl
theorem we1353 : ((Jvm.Cond.fieldLink "EchoGorgeModel" 47 "EchoGorgeModel" "newWall" "[I") : Cond) ∈ GW := tw6 (List.mem_of_getElem? (i := 153) rfl) rfl
theorem we1354 : ((Jvm.Cond.fieldLink "EchoGorgeModel" 50 "EchoGorgeModel" "newWord" "[I") : Cond) ∈ GW := tw6 (List.mem_of_getElem? (i := 154) rfl) rfl
theorem we1355 : ((Jvm.Cond.fieldLink "EchoGorgeModel" 53 "EchoGorgeModel" "newForm" "[I") : Cond) ∈ GW := tw6 (List.mem_of_getElem? (i := 155) rfl) rfl
theorem we1356 : ((Jvm.Cond.fieldLink "EchoGorgeModel" 56 "EchoGorgeModel" "newStraight" "[I") : Cond) ∈ GW := tw6 (List.mem_of_getElem? (i := 156) rfl) rfl
theorem we1357 : ((Jvm.Cond.fieldLink "EchoGorgeModel" 59 "EchoGorgeModel" "newAir" "[I") : Cond) ∈ GW := tw6 (List.mem_of_getElem? (i := 157) rfl) rfl
theorem we1358 : ((Jvm.Cond.fieldLink "EchoGorgeModel" 62 "EchoGorgeModel" "newSweet" "[I") : Cond) ∈ GW := tw6 (List.mem_of_getElem? (i := 158) rfl) rfl
theorem we1359 : ((Jvm.Cond.fieldLink "EchoGorgeModel" 65 "EchoGorgeModel" "loud" "[I") : Cond) ∈ GW := tw6 (List.mem_of_getElem? (i := 159) rfl) rfl
theorem we1362 : ((Jvm.Cond.fieldLink "EchoGorgeModel" 68 "EchoGorgeModel" "without" "I") : Cond) ∈ GW := tw6 (List.mem_of_getElem? (i := 162) rfl) rfl
theorem we1366 : ((Jvm.Cond.fieldLink "EchoGorgeModel" 71 "EchoGorgeModel" "saidSound" "[I") : Cond) ∈ GW := tw6 (List.mem_of_getElem? (i := 166) rfl) rfl
theorem we1367 : ((Jvm.Cond.fieldLink "EchoGorgeModel" 74 "EchoGorgeModel" "saidTick" "[I") : Cond) ∈ GW := tw6 (List.mem_of_getElem? (i := 167) rfl) rfl
theorem we1369 : ((Jvm.Cond.fieldLink "EchoGorgeModel" 77 "EchoGorgeModel" "lineWord" "[I") : Cond) ∈ GW := tw6 (List.mem_of_getElem? (i := 169) rfl) rfl
theorem we1370 : ((Jvm.Cond.fieldLink "EchoGorgeModel" 80 "EchoGorgeModel" "spoken" "[I") : Cond) ∈ GW := tw6 (List.mem_of_getElem? (i := 170) rfl) rfl
theorem we1371 : ((Jvm.Cond.fieldLink "EchoGorgeModel" 83 "EchoGorgeModel" "back" "[I") : Cond) ∈ GW := tw6 (List.mem_of_getElem? (i := 171) rfl) rfl
theorem we1379 : ((Jvm.Cond.fieldLink "EchoGorgeModel" 86 "EchoGorgeModel" "plainWord" "[I") : Cond) ∈ GW := tw6 (List.mem_of_getElem? (i := 179) rfl) rfl
theorem we1380 : ((Jvm.Cond.fieldLink "EchoGorgeModel" 89 "EchoGorgeModel" "good" "[I") : Cond) ∈ GW := tw6 (List.mem_of_getElem? (i := 180) rfl) rfl
theorem we1382 : ((Jvm.Cond.fieldLink "EchoGorgeModel" 92 "EchoGorgeModel" "sung" "[I") : Cond) ∈ GW := tw6 (List.mem_of_getElem? (i := 182) rfl) rfl
theorem we1384 : ((Jvm.Cond.fieldLink "EchoGorgeModel" 95 "EchoGorgeModel" "tells" "[I") : Cond) ∈ GW := tw6 (List.mem_of_getElem? (i := 184) rfl) rfl
theorem we1385 : ((Jvm.Cond.fieldLink "EchoGorgeModel" 98 "EchoGorgeModel" "rival" "[I") : Cond) ∈ GW := tw6 (List.mem_of_getElem? (i := 185) rfl) rfl
theorem we1386 : ((Jvm.Cond.fieldLink "EchoGorgeModel" 101 "EchoGorgeModel" "rows" "[J") : Cond) ∈ GW := tw6 (List.mem_of_getElem? (i := 186) rfl) rfl
theorem we1388 : ((Jvm.Cond.fieldLink "EchoGorgeModel" 105 "EchoGorgeModel" "truly" "[I") : Cond) ∈ GW := tw6 (List.mem_of_getElem? (i := 188) rfl) rfl
theorem we1389 : ((Jvm.Cond.fieldLink "EchoGorgeModel" 108 "EchoGorgeModel" "stands" "[I") : Cond) ∈ GW := tw6 (List.mem_of_getElem? (i := 189) rfl) rfl
theorem we1390 : ((Jvm.Cond.fieldLink "EchoGorgeModel" 111 "EchoGorgeModel" "here" "[Z") : Cond) ∈ GW := tw6 (List.mem_of_getElem? (i := 190) rfl) rfl
theorem we1391 : ((Jvm.Cond.fieldLink "EchoGorgeModel" 115 "EchoGorgeModel" "there" "[Z") : Cond) ∈ GW := tw6 (List.mem_of_getElem? (i := 191) rfl) rfl
theorem we1392 : ((Jvm.Cond.fieldLink "EchoGorgeModel" 118 "EchoGorgeModel" "together" "[I") : Cond) ∈ GW := tw6 (List.mem_of_getElem? (i := 192) rfl) rfl
theorem we1397 : ((Jvm.Cond.fieldLink "EchoGorgeModel" 121 "EchoGorgeModel" "imageSound" "[I") : Cond) ∈ GW := tw6 (List.mem_of_getElem? (i := 197) rfl) rfl
theorem we1398 : ((Jvm.Cond.fieldLink "EchoGorgeModel" 124 "EchoGorgeModel" "imageTick" "[I") : Cond) ∈ GW := tw6 (List.mem_of_getElem? (i := 198) rfl) rfl
theorem we1399 : ((Jvm.Cond.fieldLink "EchoGorgeModel" 127 "EchoGorgeModel" "imageTells" "[I") : Cond) ∈ GW := tw6 (List.mem_of_getElem? (i := 199) rfl) rfl
theorem we1400 : ((Jvm.Cond.fieldLink "EchoGorgeModel" 130 "EchoGorgeModel" "imageSung" "[I") : Cond) ∈ GW := tw6 (List.mem_of_getElem? (i := 200) rfl) rfl
theorem we1401 : ((Jvm.Cond.fieldLink "EchoGorgeModel" 133 "EchoGorgeModel" "imageStands" "[I") : Cond) ∈ GW := tw6 (List.mem_of_getElem? (i := 201) rfl) rfl
theorem we1577 : ((Jvm.Cond.arrayClass Jvm.ClassFile.FieldType.long) : Cond) ∈ GW := tw7 (List.mem_of_getElem? (i := 137) rfl) rfl
theorem we1578 : ((Jvm.Cond.arrayClass Jvm.ClassFile.FieldType.boolean) : Cond) ∈ GW := tw7 (List.mem_of_getElem? (i := 138) rfl) rfl
theorem tc_X0 {T : u_T} {C : String} {N : Nat} (h : vwCl[0]? = some (C, T, N)) : T = TX0 := by
  have e : vwCl[0]? = some (RX0, TX0, 1) := rfl
  rw [e] at h
  cases h
  rfl
theorem tc_X1 {T : u_T} {C : String} {N : Nat} (h : vwCl[1]? = some (C, T, N)) : T = TX1 := by
  have e : vwCl[1]? = some (RX1, TX1, 5) := rfl
  rw [e] at h
  cases h
  rfl
theorem tc_X2 {T : u_T} {C : String} {N : Nat} (h : vwCl[2]? = some (C, T, N)) : T = TX2 := by
  have e : vwCl[2]? = some (RX2, TX2, 21) := rfl
  rw [e] at h
  cases h
  rfl
theorem tc_X3 {T : u_T} {C : String} {N : Nat} (h : vwCl[3]? = some (C, T, N)) : T = TX3 := by
  have e : vwCl[3]? = some (RX3, TX3, 8) := rfl
  rw [e] at h
  cases h
  rfl
theorem tc_X4 {T : u_T} {C : String} {N : Nat} (h : vwCl[4]? = some (C, T, N)) : T = TX4 := by
  have e : vwCl[4]? = some (RX4, TX4, 9) := rfl
  rw [e] at h
  cases h
  rfl
theorem tc_X5 {T : u_T} {C : String} {N : Nat} (h : vwCl[5]? = some (C, T, N)) : T = TX5 := by
  have e : vwCl[5]? = some (RX5, TX5, 2) := rfl
  rw [e] at h
  cases h
  rfl
theorem tc_X6 {T : u_T} {C : String} {N : Nat} (h : vwCl[6]? = some (C, T, N)) : T = TX6 := by
  have e : vwCl[6]? = some (RX6, TX6, 12) := rfl
  rw [e] at h
  cases h
  rfl
theorem tc_X7 {T : u_T} {C : String} {N : Nat} (h : vwCl[7]? = some (C, T, N)) : T = TX7 := by
  have e : vwCl[7]? = some (RX7, TX7, 9) := rfl
  rw [e] at h
  cases h
  rfl
theorem tc_X8 {T : u_T} {C : String} {N : Nat} (h : vwCl[8]? = some (C, T, N)) : T = TX8 := by
  have e : vwCl[8]? = some (RX8, TX8, 8) := rfl
  rw [e] at h
  cases h
  rfl
theorem tc_X9 {T : u_T} {C : String} {N : Nat} (h : vwCl[9]? = some (C, T, N)) : T = TX9 := by
  have e : vwCl[9]? = some (RX9, TX9, 9) := rfl
  rw [e] at h
  cases h
  rfl
theorem tc_X10 {T : u_T} {C : String} {N : Nat} (h : vwCl[10]? = some (C, T, N)) : T = TX10 := by
  have e : vwCl[10]? = some (RX10, TX10, 16) := rfl
  rw [e] at h
  cases h
  rfl
theorem tc_X11 {T : u_T} {C : String} {N : Nat} (h : vwCl[11]? = some (C, T, N)) : T = TX11 := by
  have e : vwCl[11]? = some (RX11, TX11, 18) := rfl
  rw [e] at h
  cases h
  rfl
theorem tc_X12 {T : u_T} {C : String} {N : Nat} (h : vwCl[12]? = some (C, T, N)) : T = TX12 := by
  have e : vwCl[12]? = some (RX12, TX12, 87) := rfl
  rw [e] at h
  cases h
  rfl
theorem iX2_57 : Fk RX2 57 2 21 0 0 0 := ⟨RX2, TX2, tyX2, ci_X2, by decide, rfl, we48⟩
theorem iX2_61 : Fk RX2 61 2 21 1 0 0 := ⟨RX2, TX2, tyX2, ci_X2, by decide, rfl, we54⟩
theorem iX2_64 : Fk RX2 64 2 21 2 0 0 := ⟨RX2, TX2, tyX2, ci_X2, by decide, rfl, we59⟩
theorem iX2_67 : Fk RX2 67 2 21 3 0 0 := ⟨RX2, TX2, tyX2, ci_X2, by decide, rfl, we63⟩
theorem iX2_70 : Fk RX2 70 2 21 4 0 0 := ⟨RX2, TX2, tyX2, ci_X2, by decide, rfl, we67⟩
theorem iX2_73 : Fk RX2 73 2 21 5 0 0 := ⟨RX2, TX2, tyX2, ci_X2, by decide, rfl, we73⟩
theorem iX2_76 : Fk RX2 76 2 21 6 0 0 := ⟨RX2, TX2, tyX2, ci_X2, by decide, rfl, we78⟩
theorem iX2_18 : Fk RX2 18 2 21 9 4 3 := ⟨RX2, TX2, tyX2, ci_X2, by decide, rfl, we88⟩
theorem gX2_79 : LkS RX2 79 mJ7_fill_53178 2 := ⟨⟨we45, we3, (by unfold yw; rw [if_pos rfl]; exact we47), ⟨by decide, by decide, by decide +kernel⟩, by decide⟩, we46⟩
theorem iX2_33 : Fk RX2 33 2 21 14 4 8 := ⟨RX2, TX2, tyX2, ci_X2, by decide, rfl, we105⟩
theorem iX2_36 : Fk RX2 36 2 21 15 4 9 := ⟨RX2, TX2, tyX2, ci_X2, by decide, rfl, we108⟩
theorem iX2_9 : Fk RX2 9 2 21 7 4 1 := ⟨RX2, TX2, tyX2, ci_X2, by decide, rfl, we82⟩
theorem iX2_15 : Fk RX2 15 2 21 8 4 2 := ⟨RX2, TX2, tyX2, ci_X2, by decide, rfl, we86⟩
theorem iX2_21 : Fk RX2 21 2 21 10 4 4 := ⟨RX2, TX2, tyX2, ci_X2, by decide, rfl, we91⟩
theorem iX2_24 : Fk RX2 24 2 21 11 4 5 := ⟨RX2, TX2, tyX2, ci_X2, by decide, rfl, we95⟩
theorem iX2_27 : Fk RX2 27 2 21 12 4 6 := ⟨RX2, TX2, tyX2, ci_X2, by decide, rfl, we98⟩
theorem iX2_30 : Fk RX2 30 2 21 13 4 7 := ⟨RX2, TX2, tyX2, ci_X2, by decide, rfl, we101⟩
theorem iX2_39 : Fk RX2 39 2 21 16 4 10 := ⟨RX2, TX2, tyX2, ci_X2, by decide, rfl, we113⟩
theorem iX2_42 : Fk RX2 42 2 21 17 4 11 := ⟨RX2, TX2, tyX2, ci_X2, by decide, rfl, we117⟩
theorem iX2_45 : Fk RX2 45 2 21 18 4 12 := ⟨RX2, TX2, tyX2, ci_X2, by decide, rfl, we121⟩
theorem iX2_48 : Fk RX2 48 2 21 19 4 13 := ⟨RX2, TX2, tyX2, ci_X2, by decide, rfl, we125⟩
theorem iX2_51 : Fk RX2 51 2 21 20 4 14 := ⟨RX2, TX2, tyX2, ci_X2, by decide, rfl, we128⟩
theorem gX2_54 : LkV RX2 54 mX2_clear 0 := ⟨⟨we41, we2, (by unfold yw; rw [if_pos rfl]; exact we44), ⟨by decide, by decide, by decide +kernel⟩, by decide⟩, we42, we43⟩
theorem iX8_9 : Fk RX8 9 8 8 0 4 1 := ⟨RX8, TX8, tyX8, ci_X8, by decide, rfl, we195⟩
theorem gX8_36 : LkS RX8 36 mJ7_fill_53178 2 := ⟨⟨we190, we3, (by unfold yw; rw [if_pos rfl]; exact we47), ⟨by decide, by decide, by decide +kernel⟩, by decide⟩, we46⟩
theorem iX8_46 : Fk RX8 46 8 8 1 0 0 := ⟨RX8, TX8, tyX8, ci_X8, by decide, rfl, we198⟩
theorem iX8_15 : Fk RX8 15 8 8 2 4 2 := ⟨RX8, TX8, tyX8, ci_X8, by decide, rfl, we200⟩
theorem iX8_49 : Fk RX8 49 8 8 3 0 0 := ⟨RX8, TX8, tyX8, ci_X8, by decide, rfl, we204⟩
theorem gX8_30 : LkV RX8 30 mX8_clearSaid 0 := ⟨⟨we186, we4, (by unfold yw; rw [if_pos rfl]; exact we189), ⟨by decide, by decide, by decide +kernel⟩, by decide⟩, we187, we188⟩
theorem gX8_33 : LkV RX8 33 mX8_clearTold 0 := ⟨⟨we191, we4, (by unfold yw; rw [if_pos rfl]; exact we194), ⟨by decide, by decide, by decide +kernel⟩, by decide⟩, we192, we193⟩
theorem iX8_18 : Fk RX8 18 8 8 4 4 3 := ⟨RX8, TX8, tyX8, ci_X8, by decide, rfl, we206⟩
theorem iX8_42 : Fk RX8 42 8 8 5 0 0 := ⟨RX8, TX8, tyX8, ci_X8, by decide, rfl, we209⟩
theorem iX8_21 : Fk RX8 21 8 8 6 4 4 := ⟨RX8, TX8, tyX8, ci_X8, by decide, rfl, we212⟩
theorem iX8_24 : Fk RX8 24 8 8 7 4 5 := ⟨RX8, TX8, tyX8, ci_X8, by decide, rfl, we215⟩
theorem gX8_27 : LkV RX8 27 mX8_clear 0 := ⟨⟨we182, we4, (by unfold yw; rw [if_pos rfl]; exact we185), ⟨by decide, by decide, by decide +kernel⟩, by decide⟩, we183, we184⟩
theorem iX7_11 : Fk RX7 11 7 9 0 4 1 := ⟨RX7, TX7, tyX7, ci_X7, by decide, rfl, we285⟩
theorem iX7_15 : Fk RX7 15 7 9 1 4 2 := ⟨RX7, TX7, tyX7, ci_X7, by decide, rfl, we288⟩
theorem iX7_18 : Fk RX7 18 7 9 3 4 3 := ⟨RX7, TX7, tyX7, ci_X7, by decide, rfl, we295⟩
theorem iX4_9 : Fk RX4 9 4 9 0 4 1 := ⟨RX4, TX4, tyX4, ci_X4, by decide, rfl, we326⟩
theorem iX4_15 : Fk RX4 15 4 9 1 4 2 := ⟨RX4, TX4, tyX4, ci_X4, by decide, rfl, we327⟩
theorem iX4_18 : Fk RX4 18 4 9 2 4 3 := ⟨RX4, TX4, tyX4, ci_X4, by decide, rfl, we328⟩
theorem jX10_11 : Nk RX10 11 2 21 := ⟨RX2, TX2, tyX2, ci_X2, we360, we36, we2⟩
theorem gX10_13 : LkB RX10 13 mX2_init 0 := ⟨we361, we2, (by unfold yw; rw [if_pos rfl]; exact we39), ⟨by decide, by decide, by decide +kernel⟩, by decide⟩
theorem iX10_14 : Fk RX10 14 10 16 0 3 0 := ⟨RX10, TX10, tyX10, ci_X10, by decide, rfl, we363⟩
theorem iX10_18 : Fk RX10 18 10 16 5 4 16 := ⟨RX10, TX10, tyX10, ci_X10, by decide, rfl, we370⟩
theorem iX10_22 : Fk RX10 22 10 16 6 4 17 := ⟨RX10, TX10, tyX10, ci_X10, by decide, rfl, we371⟩
theorem iX10_25 : Fk RX10 25 10 16 7 4 18 := ⟨RX10, TX10, tyX10, ci_X10, by decide, rfl, we372⟩
theorem iX10_28 : Fk RX10 28 10 16 8 4 19 := ⟨RX10, TX10, tyX10, ci_X10, by decide, rfl, we373⟩
theorem iX10_31 : Fk RX10 31 10 16 9 4 20 := ⟨RX10, TX10, tyX10, ci_X10, by decide, rfl, we374⟩
theorem iX10_34 : Fk RX10 34 10 16 10 4 21 := ⟨RX10, TX10, tyX10, ci_X10, by decide, rfl, we375⟩
theorem iX10_37 : Fk RX10 37 10 16 11 4 22 := ⟨RX10, TX10, tyX10, ci_X10, by decide, rfl, we376⟩
theorem iX10_40 : Fk RX10 40 10 16 13 4 23 := ⟨RX10, TX10, tyX10, ci_X10, by decide, rfl, we378⟩
theorem iX10_43 : Fk RX10 43 10 16 15 4 24 := ⟨RX10, TX10, tyX10, ci_X10, by decide, rfl, we380⟩
theorem gX10_46 : LkS RX10 46 mJ7_fill_53178 2 := ⟨⟨we362, we3, (by unfold yw; rw [if_pos rfl]; exact we47), ⟨by decide, by decide, by decide +kernel⟩, by decide⟩, we46⟩
theorem iX0_9 : Fk RX0 9 0 1 0 4 1 := ⟨RX0, TX0, tyX0, ci_X0, by decide, rfl, we420⟩
theorem iX3_9 : Fk RX3 9 3 8 0 4 1 := ⟨RX3, TX3, tyX3, ci_X3, by decide, rfl, we432⟩
theorem jX3_15 : Nk RX3 15 7 9 := ⟨RX7, TX7, tyX7, ci_X7, we430, we280, we6⟩
theorem gX3_17 : Cond.initialized mX7_init.nm.cls ∈ GW ∧ yw mX7_init ∈ GW ∧ (mX7_init.nm.cls ≠ "java/lang/invoke/MethodHandle" ∧ mX7_init.nm.cls ≠ "java/lang/invoke/VarHandle" ∧ (parseMethodDescriptor mX7_init.nm.desc).map (fun d => d.parameters.length) = some 0) ∧ mX7_init.nL ≤ 41 := ⟨we6, (by unfold yw; rw [if_pos rfl]; exact we283), ⟨by decide, by decide, by decide +kernel⟩, by decide⟩
theorem iX3_18 : Fk RX3 18 3 8 1 4 2 := ⟨RX3, TX3, tyX3, ci_X3, by decide, rfl, we434⟩
theorem iX9_9 : Fk RX9 9 9 9 0 4 1 := ⟨RX9, TX9, tyX9, ci_X9, by decide, rfl, we464⟩
theorem iX9_15 : Fk RX9 15 9 9 2 4 2 := ⟨RX9, TX9, tyX9, ci_X9, by decide, rfl, we467⟩
theorem iX9_18 : Fk RX9 18 9 9 3 4 3 := ⟨RX9, TX9, tyX9, ci_X9, by decide, rfl, we468⟩
theorem iX5_9 : Fk RX5 9 5 2 0 4 1 := ⟨RX5, TX5, tyX5, ci_X5, by decide, rfl, we499⟩
theorem iX5_15 : Fk RX5 15 5 2 1 4 2 := ⟨RX5, TX5, tyX5, ci_X5, by decide, rfl, we500⟩
theorem iX1_9 : Fk RX1 9 1 5 0 4 1 := ⟨RX1, TX1, tyX1, ci_X1, by decide, rfl, we512⟩
theorem iX1_15 : Fk RX1 15 1 5 1 4 2 := ⟨RX1, TX1, tyX1, ci_X1, by decide, rfl, we514⟩
theorem iX11_9 : Fk RX11 9 11 18 0 4 1 := ⟨RX11, TX11, tyX11, ci_X11, by decide, rfl, we529⟩
theorem iX11_13 : Fk RX11 13 11 18 1 0 0 := ⟨RX11, TX11, tyX11, ci_X11, by decide, rfl, we530⟩
theorem iX11_17 : Fk RX11 17 11 18 2 0 0 := ⟨RX11, TX11, tyX11, ci_X11, by decide, rfl, we531⟩
theorem iX11_20 : Fk RX11 20 11 18 3 4 2 := ⟨RX11, TX11, tyX11, ci_X11, by decide, rfl, we532⟩
theorem jX11_24 : Nk RX11 24 2 21 := ⟨RX2, TX2, tyX2, ci_X2, we35, we36, we2⟩
theorem gX11_26 : LkB RX11 26 mX2_init 0 := ⟨we37, we2, (by unfold yw; rw [if_pos rfl]; exact we39), ⟨by decide, by decide, by decide +kernel⟩, by decide⟩
theorem iX11_27 : Fk RX11 27 11 18 4 3 0 := ⟨RX11, TX11, tyX11, ci_X11, by decide, rfl, we533⟩
theorem iX11_31 : Fk RX11 31 11 18 5 3 0 := ⟨RX11, TX11, tyX11, ci_X11, by decide, rfl, we534⟩
theorem jX11_34 : Nk RX11 34 8 8 := ⟨RX8, TX8, tyX8, ci_X8, we176, we177, we4⟩
theorem gX11_36 : LkB RX11 36 mX8_init 0 := ⟨we178, we4, (by unfold yw; rw [if_pos rfl]; exact we180), ⟨by decide, by decide, by decide +kernel⟩, by decide⟩
theorem iX11_37 : Fk RX11 37 11 18 6 4 33 := ⟨RX11, TX11, tyX11, ci_X11, by decide, rfl, we535⟩
theorem iX11_41 : Fk RX11 41 11 18 7 4 39 := ⟨RX11, TX11, tyX11, ci_X11, by decide, rfl, we536⟩
theorem iX11_44 : Fk RX11 44 11 18 8 1 0 := ⟨RX11, TX11, tyX11, ci_X11, by decide, rfl, we537⟩
theorem jX11_48 : Nk RX11 48 6 12 := ⟨RX6, TX6, tyX6, ci_X6, we235, we236, we5⟩
theorem gX11_50 : Cond.initialized mX6_init.nm.cls ∈ GW ∧ yw mX6_init ∈ GW ∧ (mX6_init.nm.cls ≠ "java/lang/invoke/MethodHandle" ∧ mX6_init.nm.cls ≠ "java/lang/invoke/VarHandle" ∧ (parseMethodDescriptor mX6_init.nm.desc).map (fun d => d.parameters.length) = some 0) ∧ mX6_init.nL ≤ 41 := ⟨we5, (by unfold yw; rw [if_pos rfl]; exact we239), ⟨by decide, by decide, by decide +kernel⟩, by decide⟩
theorem iX11_51 : Fk RX11 51 11 18 9 4 45 := ⟨RX11, TX11, tyX11, ci_X11, by decide, rfl, we538⟩
theorem jX11_55 : Nk RX11 55 7 9 := ⟨RX7, TX7, tyX7, ci_X7, we279, we280, we6⟩
theorem gX11_57 : Cond.initialized mX7_init.nm.cls ∈ GW ∧ yw mX7_init ∈ GW ∧ (mX7_init.nm.cls ≠ "java/lang/invoke/MethodHandle" ∧ mX7_init.nm.cls ≠ "java/lang/invoke/VarHandle" ∧ (parseMethodDescriptor mX7_init.nm.desc).map (fun d => d.parameters.length) = some 0) ∧ mX7_init.nL ≤ 41 := ⟨we6, (by unfold yw; rw [if_pos rfl]; exact we283), ⟨by decide, by decide, by decide +kernel⟩, by decide⟩
theorem iX11_58 : Fk RX11 58 11 18 10 4 46 := ⟨RX11, TX11, tyX11, ci_X11, by decide, rfl, we539⟩
theorem jX11_62 : Nk RX11 62 4 9 := ⟨RX4, TX4, tyX4, ci_X4, we320, we321, we7⟩
theorem gX11_64 : Cond.initialized mX4_init.nm.cls ∈ GW ∧ yw mX4_init ∈ GW ∧ (mX4_init.nm.cls ≠ "java/lang/invoke/MethodHandle" ∧ mX4_init.nm.cls ≠ "java/lang/invoke/VarHandle" ∧ (parseMethodDescriptor mX4_init.nm.desc).map (fun d => d.parameters.length) = some 0) ∧ mX4_init.nL ≤ 41 := ⟨we7, (by unfold yw; rw [if_pos rfl]; exact we324), ⟨by decide, by decide, by decide +kernel⟩, by decide⟩
theorem iX11_65 : Fk RX11 65 11 18 11 4 50 := ⟨RX11, TX11, tyX11, ci_X11, by decide, rfl, we540⟩
theorem jX11_69 : Nk RX11 69 10 16 := ⟨RX10, TX10, tyX10, ci_X10, we354, we355, we8⟩
theorem gX11_71 : LkB RX11 71 mX10_init 0 := ⟨we356, we8, (by unfold yw; rw [if_pos rfl]; exact we358), ⟨by decide, by decide, by decide +kernel⟩, by decide⟩
theorem iX11_72 : Fk RX11 72 11 18 12 4 54 := ⟨RX11, TX11, tyX11, ci_X11, by decide, rfl, we541⟩
theorem jX11_76 : Nk RX11 76 0 1 := ⟨RX0, TX0, tyX0, ci_X0, we414, we415, we9⟩
theorem gX11_78 : Cond.initialized mX0_init.nm.cls ∈ GW ∧ yw mX0_init ∈ GW ∧ (mX0_init.nm.cls ≠ "java/lang/invoke/MethodHandle" ∧ mX0_init.nm.cls ≠ "java/lang/invoke/VarHandle" ∧ (parseMethodDescriptor mX0_init.nm.desc).map (fun d => d.parameters.length) = some 0) ∧ mX0_init.nL ≤ 41 := ⟨we9, (by unfold yw; rw [if_pos rfl]; exact we418), ⟨by decide, by decide, by decide +kernel⟩, by decide⟩
theorem iX11_79 : Fk RX11 79 11 18 13 4 79 := ⟨RX11, TX11, tyX11, ci_X11, by decide, rfl, we542⟩
theorem jX11_83 : Nk RX11 83 3 8 := ⟨RX3, TX3, tyX3, ci_X3, we424, we425, we10⟩
theorem gX11_85 : Cond.initialized mX3_init.nm.cls ∈ GW ∧ yw mX3_init ∈ GW ∧ (mX3_init.nm.cls ≠ "java/lang/invoke/MethodHandle" ∧ mX3_init.nm.cls ≠ "java/lang/invoke/VarHandle" ∧ (parseMethodDescriptor mX3_init.nm.desc).map (fun d => d.parameters.length) = some 0) ∧ mX3_init.nL ≤ 41 := ⟨we10, (by unfold yw; rw [if_pos rfl]; exact we428), ⟨by decide, by decide, by decide +kernel⟩, by decide⟩
theorem iX11_86 : Fk RX11 86 11 18 14 4 81 := ⟨RX11, TX11, tyX11, ci_X11, by decide, rfl, we543⟩
theorem jX11_90 : Nk RX11 90 9 9 := ⟨RX9, TX9, tyX9, ci_X9, we458, we459, we11⟩
theorem gX11_92 : Cond.initialized mX9_init.nm.cls ∈ GW ∧ yw mX9_init ∈ GW ∧ (mX9_init.nm.cls ≠ "java/lang/invoke/MethodHandle" ∧ mX9_init.nm.cls ≠ "java/lang/invoke/VarHandle" ∧ (parseMethodDescriptor mX9_init.nm.desc).map (fun d => d.parameters.length) = some 0) ∧ mX9_init.nL ≤ 41 := ⟨we11, (by unfold yw; rw [if_pos rfl]; exact we462), ⟨by decide, by decide, by decide +kernel⟩, by decide⟩
theorem iX11_93 : Fk RX11 93 11 18 15 4 87 := ⟨RX11, TX11, tyX11, ci_X11, by decide, rfl, we544⟩
theorem jX11_97 : Nk RX11 97 5 2 := ⟨RX5, TX5, tyX5, ci_X5, we493, we494, we12⟩
theorem gX11_99 : LkB RX11 99 mX5_init 0 := ⟨we495, we12, (by unfold yw; rw [if_pos rfl]; exact we497), ⟨by decide, by decide, by decide +kernel⟩, by decide⟩
theorem iX11_100 : Fk RX11 100 11 18 16 4 91 := ⟨RX11, TX11, tyX11, ci_X11, by decide, rfl, we545⟩
theorem jX11_104 : Nk RX11 104 1 5 := ⟨RX1, TX1, tyX1, ci_X1, we506, we507, we13⟩
theorem gX11_106 : Cond.initialized mX1_init.nm.cls ∈ GW ∧ yw mX1_init ∈ GW ∧ (mX1_init.nm.cls ≠ "java/lang/invoke/MethodHandle" ∧ mX1_init.nm.cls ≠ "java/lang/invoke/VarHandle" ∧ (parseMethodDescriptor mX1_init.nm.desc).map (fun d => d.parameters.length) = some 0) ∧ mX1_init.nL ≤ 41 := ⟨we13, (by unfold yw; rw [if_pos rfl]; exact we510), ⟨by decide, by decide, by decide +kernel⟩, by decide⟩
theorem iX11_107 : Fk RX11 107 11 18 17 4 94 := ⟨RX11, TX11, tyX11, ci_X11, by decide, rfl, we546⟩
theorem iX12_7 : Fk RX12 7 12 87 5 0 0 := ⟨RX12, TX12, tyX12, ci_X12, by decide, rfl, we1320⟩
theorem iX12_13 : Fk RX12 13 12 87 8 4 1 := ⟨RX12, TX12, tyX12, ci_X12, by decide, rfl, we1323⟩
theorem iX12_17 : Fk RX12 17 12 87 9 4 2 := ⟨RX12, TX12, tyX12, ci_X12, by decide, rfl, we1324⟩
theorem iX12_20 : Fk RX12 20 12 87 10 4 3 := ⟨RX12, TX12, tyX12, ci_X12, by decide, rfl, we1325⟩
theorem iX12_23 : Fk RX12 23 12 87 11 4 4 := ⟨RX12, TX12, tyX12, ci_X12, by decide, rfl, we1326⟩
theorem iX12_26 : Fk RX12 26 12 87 12 4 5 := ⟨RX12, TX12, tyX12, ci_X12, by decide, rfl, we1327⟩
theorem iX12_29 : Fk RX12 29 12 87 13 4 6 := ⟨RX12, TX12, tyX12, ci_X12, by decide, rfl, we1328⟩
theorem iX12_32 : Fk RX12 32 12 87 14 4 7 := ⟨RX12, TX12, tyX12, ci_X12, by decide, rfl, we1329⟩
theorem iX12_35 : Fk RX12 35 12 87 15 4 8 := ⟨RX12, TX12, tyX12, ci_X12, by decide, rfl, we1330⟩
theorem iX12_38 : Fk RX12 38 12 87 18 0 0 := ⟨RX12, TX12, tyX12, ci_X12, by decide, rfl, we1333⟩
theorem iX12_41 : Fk RX12 41 12 87 19 4 9 := ⟨RX12, TX12, tyX12, ci_X12, by decide, rfl, we1334⟩
theorem iX12_44 : Fk RX12 44 12 87 37 4 10 := ⟨RX12, TX12, tyX12, ci_X12, by decide, rfl, we1352⟩
theorem iX12_47 : Fk RX12 47 12 87 38 4 11 := ⟨RX12, TX12, tyX12, ci_X12, by decide, rfl, we1353⟩
theorem iX12_50 : Fk RX12 50 12 87 39 4 12 := ⟨RX12, TX12, tyX12, ci_X12, by decide, rfl, we1354⟩
theorem iX12_53 : Fk RX12 53 12 87 40 4 13 := ⟨RX12, TX12, tyX12, ci_X12, by decide, rfl, we1355⟩
theorem iX12_56 : Fk RX12 56 12 87 41 4 14 := ⟨RX12, TX12, tyX12, ci_X12, by decide, rfl, we1356⟩
theorem iX12_59 : Fk RX12 59 12 87 42 4 15 := ⟨RX12, TX12, tyX12, ci_X12, by decide, rfl, we1357⟩
theorem iX12_62 : Fk RX12 62 12 87 43 4 16 := ⟨RX12, TX12, tyX12, ci_X12, by decide, rfl, we1358⟩
theorem iX12_65 : Fk RX12 65 12 87 44 4 17 := ⟨RX12, TX12, tyX12, ci_X12, by decide, rfl, we1359⟩
theorem iX12_68 : Fk RX12 68 12 87 47 0 0 := ⟨RX12, TX12, tyX12, ci_X12, by decide, rfl, we1362⟩
theorem iX12_71 : Fk RX12 71 12 87 51 4 18 := ⟨RX12, TX12, tyX12, ci_X12, by decide, rfl, we1366⟩
theorem iX12_74 : Fk RX12 74 12 87 52 4 19 := ⟨RX12, TX12, tyX12, ci_X12, by decide, rfl, we1367⟩
theorem iX12_77 : Fk RX12 77 12 87 54 4 20 := ⟨RX12, TX12, tyX12, ci_X12, by decide, rfl, we1369⟩
theorem iX12_80 : Fk RX12 80 12 87 55 4 21 := ⟨RX12, TX12, tyX12, ci_X12, by decide, rfl, we1370⟩
theorem iX12_83 : Fk RX12 83 12 87 56 4 22 := ⟨RX12, TX12, tyX12, ci_X12, by decide, rfl, we1371⟩
theorem iX12_86 : Fk RX12 86 12 87 64 4 23 := ⟨RX12, TX12, tyX12, ci_X12, by decide, rfl, we1379⟩
theorem iX12_89 : Fk RX12 89 12 87 65 4 24 := ⟨RX12, TX12, tyX12, ci_X12, by decide, rfl, we1380⟩
theorem iX12_92 : Fk RX12 92 12 87 67 4 25 := ⟨RX12, TX12, tyX12, ci_X12, by decide, rfl, we1382⟩
theorem iX12_95 : Fk RX12 95 12 87 69 4 26 := ⟨RX12, TX12, tyX12, ci_X12, by decide, rfl, we1384⟩
theorem iX12_98 : Fk RX12 98 12 87 70 4 27 := ⟨RX12, TX12, tyX12, ci_X12, by decide, rfl, we1385⟩
theorem iX12_101 : Fk RX12 101 12 87 71 4 28 := ⟨RX12, TX12, tyX12, ci_X12, by decide, rfl, we1386⟩
theorem iX12_105 : Fk RX12 105 12 87 73 4 29 := ⟨RX12, TX12, tyX12, ci_X12, by decide, rfl, we1388⟩
theorem iX12_108 : Fk RX12 108 12 87 74 4 30 := ⟨RX12, TX12, tyX12, ci_X12, by decide, rfl, we1389⟩
theorem iX12_111 : Fk RX12 111 12 87 75 4 31 := ⟨RX12, TX12, tyX12, ci_X12, by decide, rfl, we1390⟩
theorem iX12_115 : Fk RX12 115 12 87 76 4 32 := ⟨RX12, TX12, tyX12, ci_X12, by decide, rfl, we1391⟩
theorem iX12_118 : Fk RX12 118 12 87 77 4 33 := ⟨RX12, TX12, tyX12, ci_X12, by decide, rfl, we1392⟩
theorem iX12_121 : Fk RX12 121 12 87 82 4 34 := ⟨RX12, TX12, tyX12, ci_X12, by decide, rfl, we1397⟩
theorem iX12_124 : Fk RX12 124 12 87 83 4 35 := ⟨RX12, TX12, tyX12, ci_X12, by decide, rfl, we1398⟩
theorem iX12_127 : Fk RX12 127 12 87 84 4 36 := ⟨RX12, TX12, tyX12, ci_X12, by decide, rfl, we1399⟩
theorem iX12_130 : Fk RX12 130 12 87 85 4 37 := ⟨RX12, TX12, tyX12, ci_X12, by decide, rfl, we1400⟩
theorem iX12_133 : Fk RX12 133 12 87 86 4 38 := ⟨RX12, TX12, tyX12, ci_X12, by decide, rfl, we1401⟩
