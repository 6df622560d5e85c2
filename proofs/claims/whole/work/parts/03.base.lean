def R_law : String := "EchoGorgeLaw"
def lw_P (b : Addr) (xs : List Int32) (args : Array Value) (s : State) : Prop := args = #[.ref b] ∧ s.IntsAt b xs ∧ xs.length ≤ 384 ∧ (Jvm.Cond.and given_1 narrow_1).before args s = true
def lw_Q (_ : Array Value) (s : State) (o : Outcome) (t : State) : Prop := o = .returned (some (.int 1)) ∧ Framed s o t [] 600128 7301097
def lw_Z (below : List Frame) (a : Array Value) (s : State) : State → Prop := fun t => ∃ o, t.status = .running ∧ Ended t below o ∧ lw_Q a s o t
/-- the law's own end, with 1 on the stack, nothing written that was there before, its room as the claim has it -/
theorem lw_ret {p : Program} {l : Launch} {e : Env} {s : State} {m : MethodId} {below : List Frame} {meth : Method} {c : Code} {b : Nat} (hx : p.tables.exec = Jvm.exec) (hb : c.code = code) (hr : meth.sig.returnType = ret) (hlocks : meth.locks = false) {pc : Nat} {H : Heap} {ls : Array Slot} (hdg : decode code pc = .ok (.ireturn, 1)) : W p l e room_1 s m #[Value.ref b] below meth c H [] 600128 7301097 (lw_Z below #[Value.ref b] s) (F0 m pc ls [.int 1]) := by
  intro T hT X
  obtain ⟨fs, hret, hrun, hended, hW, hframe⟩ := X.leave (v := some (.int 1)) (hlocks := hlocks) (fun h => by rw [hr] at h; cases h)
  have hmeth' : T.vm.method? m = some meth := X.method'
  refine ⟨T.setFrames fs, ?_, .returned (some (.int 1)), hrun, hended, rfl, ⟨_, rfl⟩, hW, hframe⟩
  jvm_step X.here [X.here.top, hx, hb, hdg, hmeth', hr, ret, narrow_b1]
  (try refine ⟨rfl, ?_⟩); (try refine ⟨rfl, ?_⟩)
  first | (intro acts; rw [hret _ acts rfl rfl rfl]) | rw [hret _ _ rfl rfl rfl]
  exact Steps.refl _
/-- what holds at the law's entry: the machine, the code, the tables' words (any of lw_tbl by 'hts w (by decide +kernel)'), the script of L ints xs at the cell b, what the Statement gives of the start (any of its parts by flat_of_before) -/
def lw_At (p : Program) (s : State) (m : MethodId) (meth : Method) (c : Code) (b L : Nat) (xs : Nat → Int32) : Prop :=
  p.tables.exec = Jvm.exec ∧ c.code = code ∧ meth.sig.returnType = ret ∧ c.maxLocals = 7 ∧ s.vm.findClass R_law = some m.cls ∧ (∀ w ∈ lw_tbl, w.before #[Value.ref b] s = true) ∧ va_X b L xs s s.heap ∧ b < s.heap.size ∧ meth.locks = false ∧ (Jvm.Cond.and given_1 narrow_1).before #[Value.ref b] s = true

def GW : List Cond := lw_tbl.filter goodWord
/-! ===== the abstract machine's words ===== -/
abbrev AV : Type := Option (Int ⊕ (Int ⊕ Int))
abbrev AH : Type := Int → Int → Int
def zI (x : Int) : AV := some (.inl x)
def zL (x : Int) : AV := some (.inr (.inl x))
def zR (x : Int) : AV := some (.inr (.inr x))
/-- an abstract value in the machine; a reference is a cell's number, 0 is null -/
def zv (ad : Int → Nat) (v : AV) : Value := match v with
  | none => .null
  | some (.inl x) => .int (Int32.ofInt x)
  | some (.inr (.inl x)) => .long (Int64.ofInt x)
  | some (.inr (.inr c)) => if c = 0 then .null else .ref (ad c)
/-- its words on the stack -/
def zcat (v : AV) : Nat := match v with
  | some (.inr (.inl _)) => 2
  | _ => 1
theorem zv_cat (ad : Int → Nat) (v : AV) : (zv ad v).category = zcat v := by
  rcases v with _ | x | x | c
  · rfl
  · rfl
  · rfl
  · by_cases h : c = 0 <;> simp [zv, zcat, h, Value.category]
theorem zv_cats (ad : Int → Nat) (st : List AV) : ((st.map (zv ad)).map fun v => v.category).sum = (st.map zcat).sum := by
  rw [List.map_map]
  congr 1
  exact List.map_congr_left (fun v _ => zv_cat ad v)
theorem zv_ref {ad : Int → Nat} {c : Int} (h : c ≠ 0) : zv ad (zR c) = .ref (ad c) := by simp [zv, zR, h]
/-- the cells in the order in which they are made: (class, fields), or (100 int, 101 byte, 102 boolean, 103 long, length) -/
def LAY : List (Nat × Nat) := [(11, 18), (101, 700), (100, 3), (2, 21), (100, 8), (100, 8), (100, 8), (100, 18), (100, 6), (100, 6), (100, 6), (100, 3), (100, 24), (100, 8), (100, 8), (100, 32), (100, 6), (100, 18), (2, 21), (100, 8), (100, 8), (100, 8), (100, 18), (100, 6), (100, 6), (100, 6), (100, 3), (100, 24), (100, 8), (100, 8), (100, 32), (100, 6), (100, 18), (8, 8), (100, 200), (100, 60), (100, 16), (100, 3), (100, 3), (8, 8), (100, 200), (100, 60), (100, 16), (100, 3), (100, 3), (6, 12), (7, 9), (100, 19), (100, 152), (100, 8), (4, 9), (100, 400), (100, 400), (100, 8), (10, 16), (2, 21), (100, 8), (100, 8), (100, 8), (100, 18), (100, 6), (100, 6), (100, 6), (100, 3), (100, 24), (100, 8), (100, 8), (100, 32), (100, 6), (100, 18), (100, 4), (100, 32), (100, 6), (100, 144), (100, 2304), (100, 3), (100, 12), (100, 12), (100, 8), (0, 1), (100, 8), (3, 8), (100, 6), (7, 9), (100, 19), (100, 152), (100, 8), (9, 9), (100, 3), (100, 60), (100, 14), (5, 2), (100, 961), (100, 992), (1, 5), (100, 16), (100, 18), (12, 87), (100, 16), (100, 36), (100, 48), (100, 24), (100, 3), (100, 24), (100, 8), (100, 700), (100, 3), (100, 16), (100, 36), (100, 48), (100, 24), (100, 3), (100, 24), (100, 8), (100, 3200), (100, 200), (100, 200), (100, 3), (100, 12), (100, 160), (100, 3), (100, 6), (100, 16), (100, 60), (100, 1351), (103, 1351), (100, 14), (100, 6), (102, 961), (102, 961), (100, 16), (100, 200), (100, 200), (100, 60), (100, 16), (100, 6), (103, 1)]
/-- fields: 0 int, 1 boolean, 2 long, 3 a reference that changes, 4 a final one: so many cells behind its object -/
def FT : List (List (Nat × Int)) := [[(4, 1)],
  [(4, 1), (4, 2), (0, 0), (0, 0), (0, 0)],
  [(0, 0), (0, 0), (0, 0), (0, 0), (0, 0), (0, 0), (0, 0), (4, 1), (4, 2), (4, 3), (4, 4), (4, 5), (4, 6), (4, 7), (4, 8), (4, 9), (4, 10), (4, 11), (4, 12), (4, 13), (4, 14)],
  [(4, 1), (4, 2), (1, 0), (0, 0), (0, 0), (0, 0), (0, 0), (0, 0)],
  [(4, 1), (4, 2), (4, 3), (3, 0), (3, 0), (3, 0), (0, 0), (0, 0), (0, 0)],
  [(4, 1), (4, 2)],
  [(3, 0), (0, 0), (3, 0), (0, 0), (0, 0), (0, 0), (0, 0), (0, 0), (1, 0), (1, 0), (0, 0), (0, 0)],
  [(4, 1), (4, 2), (0, 0), (4, 3), (1, 0), (0, 0), (0, 0), (0, 0), (0, 0)],
  [(4, 1), (0, 0), (4, 2), (0, 0), (4, 3), (0, 0), (4, 4), (4, 5)],
  [(4, 1), (1, 0), (4, 2), (4, 3), (0, 0), (3, 0), (3, 0), (3, 0), (3, 0)],
  [(3, 0), (0, 0), (0, 0), (0, 0), (0, 0), (4, 16), (4, 17), (4, 18), (4, 19), (4, 20), (4, 21), (4, 22), (0, 0), (4, 23), (0, 0), (4, 24)],
  [(4, 1), (0, 0), (0, 0), (4, 2), (3, 0), (3, 0), (4, 33), (4, 39), (1, 0), (4, 45), (4, 46), (4, 50), (4, 54), (4, 79), (4, 81), (4, 87), (4, 91), (4, 94)],
  [(0, 0), (0, 0), (0, 0), (0, 0), (0, 0), (0, 0), (0, 0), (0, 0), (4, 1), (4, 2), (4, 3), (4, 4), (4, 5), (4, 6), (4, 7), (4, 8), (0, 0), (0, 0), (0, 0), (4, 9), (0, 0), (0, 0), (0, 0), (0, 0), (0, 0), (0, 0), (2, 0), (0, 0), (0, 0), (0, 0), (0, 0), (0, 0), (0, 0), (0, 0), (0, 0), (1, 0), (1, 0), (4, 10), (4, 11), (4, 12), (4, 13), (4, 14), (4, 15), (4, 16), (4, 17), (0, 0), (0, 0), (0, 0), (0, 0), (0, 0), (0, 0), (4, 18), (4, 19), (0, 0), (4, 20), (4, 21), (4, 22), (0, 0), (0, 0), (0, 0), (0, 0), (0, 0), (0, 0), (0, 0), (4, 23), (4, 24), (0, 0), (4, 25), (0, 0), (4, 26), (4, 27), (4, 28), (0, 0), (4, 29), (4, 30), (4, 31), (4, 32), (4, 33), (1, 0), (0, 0), (0, 0), (0, 0), (4, 34), (4, 35), (4, 36), (4, 37), (4, 38)]]

def zf (md : Bool) (ad : Int → Nat) (h : AH) (c : Int) (k : Nat) (t : Nat × Int) : Value :=
  if t.1 ≤ 1 then .int (Int32.ofInt (h c k)) else if t.1 = 2 then .long (Int64.ofInt (h c k)) else if t.1 = 3 then zv ad (zR (h c k)) else if md = true ∨ h c k ≠ 0 then .ref (ad (c + t.2)) else .null
def zfs (md : Bool) (ad : Int → Nat) (h : AH) (c : Int) (ts : List (Nat × Int)) : List Value := ts.mapIdx (fun k t => zf md ad h c k t)
def zc (md : Bool) (ad : Int → Nat) (tc : Nat → ClassId) (h : AH) (c : Int) (K : Nat × Nat) : va_E :=
  if K.1 = 100 then .inl (tc 0, K.2, .inl (fun i => Int32.ofInt (h c i)))
  else if K.1 = 101 then .inl (tc 1, K.2, .inl (fun i => Int32.ofInt (h c i)))
  else if K.1 = 102 then .inl (tc 2, K.2, .inl (fun i => Int32.ofInt (h c i)))
  else if K.1 = 103 then .inl (tc 3, K.2, .inr (.inl (fun i => Int64.ofInt (h c i))))
  else .inr (K.1, zfs md ad h c (FT.getD K.1 []))
def zw (md : Bool) (ad : Int → Nat) (tc : Nat → ClassId) (n : Nat) (h : AH) : va_W := (List.range n).map (fun j : Nat => (ad ((j : Int) + 1), zc md ad tc h ((j : Int) + 1) (LAY.getD j (0, 0))))
abbrev ztys (tc : Nat → ClassId) : List (ClassId × FieldType) := [(tc 0, .int), (tc 1, .byte), (tc 2, .boolean), (tc 3, .long)]
/-- cell c is there and is of kind K -/
def cel (n : Nat) (c : Int) (K : Nat × Nat) : Prop := 1 ≤ c ∧ c ≤ n ∧ LAY[(c - 1).toNat]? = some K
theorem zw_get {md : Bool} {ad : Int → Nat} {tc : Nat → ClassId} {n : Nat} {h : AH} {c : Int} {K : Nat × Nat} (hc : cel n c K) : (zw md ad tc n h)[(c - 1).toNat]? = some (ad c, zc md ad tc h c K) := by
  obtain ⟨h1, h2, h3⟩ := hc
  have e : (((c - 1).toNat : Nat) : Int) + 1 = c := by omega
  have hl : (c - 1).toNat < n := by omega
  unfold zw
  rw [List.getElem?_map, List.getElem?_range hl]
  dsimp only [Option.map_some]
  rw [e, List.getD_eq_getElem?_getD, h3]
  rfl
def up (h : AH) (c i v : Int) : AH := fun c' => if c' = c then (fun i' => if i' = i then v else h c i') else h c'
theorem up_c (h : AH) (c i v : Int) : up h c i v c = fun i' => if i' = i then v else h c i' := by simp [up]
theorem up_n {h : AH} {c i v c' : Int} (e : c' ≠ c) : up h c i v c' = h c' := by simp [up, e]
theorem up_ci (h : AH) (c i v : Int) : up h c i v c i = v := by simp [up]
theorem up_cn {h : AH} {c i v i' : Int} (e : i' ≠ i) : up h c i v c i' = h c i' := by simp [up, e]
theorem up_self (h : AH) (c i : Int) : up h c i (h c i) = h := by
  funext c' i'
  by_cases e : c' = c
  · subst e
    by_cases e2 : i' = i
    · subst e2; simp [up]
    · simp [up, e2]
  · simp [up, e]
/-- a world whose cell c alone has other contents -/
theorem zw_set {md : Bool} {ad : Int → Nat} {tc : Nat → ClassId} {n : Nat} {h h2 : AH} {c : Int} {K : Nat × Nat} {e : va_E} (hc : cel n c K) (he : zc md ad tc h2 c K = e) (ho : ∀ c', c' ≠ c → h2 c' = h c') : (zw md ad tc n h).set (c - 1).toNat (ad c, e) = zw md ad tc n h2 := by
  obtain ⟨h1, h2', h3⟩ := hc
  have e1 : (((c - 1).toNat : Nat) : Int) + 1 = c := by omega
  apply List.ext_getElem?
  intro j
  by_cases hj : j = (c - 1).toNat
  · subst hj
    rw [List.getElem?_set_self (by unfold zw; rw [List.length_map, List.length_range]; omega), zw_get (K := K) ⟨h1, h2', h3⟩, he]
  · rw [List.getElem?_set_ne (Ne.symm hj)]
    unfold zw
    rw [List.getElem?_map, List.getElem?_map]
    cases hr : (List.range n)[j]? with
    | none => rfl
    | some j' =>
      have hjj : j' = j := by
        have := List.getElem?_eq_some_iff.mp hr
        obtain ⟨a, b⟩ := this
        rw [List.getElem_range] at b
        exact b.symm
      subst hjj
      have hne : (j' : Int) + 1 ≠ c := by omega
      dsimp only [Option.map_some]
      have key : zc md ad tc h2 ((j' : Int) + 1) (LAY.getD j' (0, 0)) = zc md ad tc h ((j' : Int) + 1) (LAY.getD j' (0, 0)) := by
        have q := ho _ hne
        unfold zc zfs zf
        simp only [q]
      rw [key]
theorem zw_len {md : Bool} {ad : Int → Nat} {tc : Nat → ClassId} {n : Nat} {h : AH} : (zw md ad tc n h).length = n := by unfold zw; rw [List.length_map, List.length_range]
theorem zw_push {md : Bool} {ad : Int → Nat} {tc : Nat → ClassId} {n : Nat} {h : AH} {K : Nat × Nat} (hK : LAY[n]? = some K) : zw md ad tc n h ++ [(ad ((n : Int) + 1), zc md ad tc h ((n : Int) + 1) K)] = zw md ad tc (n + 1) h := by
  unfold zw
  rw [List.range_succ, List.map_append, List.map_singleton, List.getD_eq_getElem?_getD, hK]
  rfl
abbrev YD : Type := String × MethodName × ByteArray × Nat × Option FieldType × List (Nat × Nat × Nat × Nat) × Bool × Bool
abbrev YD.own (Y : YD) : String := Y.1
abbrev YD.nm (Y : YD) : MethodName := Y.2.1
abbrev YD.cd (Y : YD) : ByteArray := Y.2.2.1
abbrev YD.nL (Y : YD) : Nat := Y.2.2.2.1
abbrev YD.ret (Y : YD) : Option FieldType := Y.2.2.2.2.1
abbrev YD.exc (Y : YD) : List (Nat × Nat × Nat × Nat) := Y.2.2.2.2.2.1
abbrev YD.ini (Y : YD) : Bool := Y.2.2.2.2.2.2.1
abbrev YD.law (Y : YD) : Bool := Y.2.2.2.2.2.2.2
/-- made already; frames; cells and slots in all; the script's length and ints -/
abbrev KD : Type := Bool × Nat × Nat × Nat × Nat × (Nat → Int)
abbrev KD.md (k : KD) : Bool := k.1
abbrev KD.fr (k : KD) : Nat := k.2.1
abbrev KD.mc (k : KD) : Nat := k.2.2.1
abbrev KD.ms (k : KD) : Nat := k.2.2.2.1
abbrev KD.L (k : KD) : Nat := k.2.2.2.2.1
abbrev KD.xs (k : KD) : Nat → Int := k.2.2.2.2.2
abbrev RS : Type := Option AV ⊕ String
def zNest : List (String × Nat × MethodName × String) := [("EchoGorge", 50, (⟨"EchoGorge$Reader", "<init>", "()V"⟩ : MethodName), "EchoGorge"), ("EchoGorge", 57, (⟨"EchoGorge$Returns", "<init>", "()V"⟩ : MethodName), "EchoGorge"), ("EchoGorge", 64, (⟨"EchoGorge$Hearing", "<init>", "()V"⟩ : MethodName), "EchoGorge"), ("EchoGorge", 78, (⟨"EchoGorge$Chant", "<init>", "()V"⟩ : MethodName), "EchoGorge"), ("EchoGorge", 85, (⟨"EchoGorge$Guess", "<init>", "()V"⟩ : MethodName), "EchoGorge"), ("EchoGorge$Guess", 17, (⟨"EchoGorge$Returns", "<init>", "()V"⟩ : MethodName), "EchoGorge"), ("EchoGorge", 92, (⟨"EchoGorge$Truth", "<init>", "()V"⟩ : MethodName), "EchoGorge"), ("EchoGorge", 106, (⟨"EchoGorge$Claps", "<init>", "()V"⟩ : MethodName), "EchoGorge"), ("EchoGorge$Hearing", 50, (⟨"EchoGorge", "lowestBit", "(I)I"⟩ : MethodName), "EchoGorge"), ("EchoGorge$Chant", 67, (⟨"EchoGorge", "lowestBit", "(I)I"⟩ : MethodName), "EchoGorge"), ("EchoGorge$Claps", 65, (⟨"EchoGorge", "lowestBit", "(I)I"⟩ : MethodName), "EchoGorge")]
def zStr : List (Nat × String) := [(97, "sound"), (106, "wall"), (166, "swallows"), (170, "again"), (111, "straight"), (116, "air"), (121, "mask"), (126, "sweet"), (131, "word"), (136, "form")]
def zStrL : List Nat := [5, 4, 8, 5, 8, 3, 4, 5, 4, 4]
def zStrB : List (List Int32) := [[115, 111, 117, 110, 100], [119, 97, 108, 108], [115, 119, 97, 108, 108, 111, 119, 115], [97, 103, 97, 105, 110], [115, 116, 114, 97, 105, 103, 104, 116], [97, 105, 114], [109, 97, 115, 107], [115, 119, 101, 101, 116], [119, 111, 114, 100], [102, 111, 114, 109]]
def zThr : List String := ["java/lang/IllegalArgumentException", "java/util/NoSuchElementException"]
def zSup : List String := ["java/lang/RuntimeException", "java/lang/Exception", "java/lang/Throwable"]
/-- what isn't words nor world: links to nest mates, statics of the JDK, String constants -/
def zE (ad : Int → Nat) (A : Nat → Prop) (U : State) (H : Heap) : Prop :=
  (∀ q ∈ zNest, va_Nw (.methodLinkNest q.1 q.2.1 q.2.2.1 q.2.2.2) U) ∧ vx_Zq Bundle.tN "UNASSIGNED_STACK" Bundle.steD A U H ∧ vx_Zq Bundle.tN "SUPPRESSED_SENTINEL" Bundle.listD A U H ∧
  va_Nc "java/lang/IllegalArgumentException" "java/util/NoSuchElementException" U ∧ va_Z "java/lang/String" "COMPACT_STRINGS" "Z" (.int 1) A U H ∧ va_Zq "jdk/internal/util/Preconditions" "SIOOBE_FORMATTER" "Ljava/util/function/BiFunction;" A U H ∧
  vk_S 10 zStrL zStrB (fun i => ad (-(i : Int) - 1)) (fun i => ad (-(i : Int) - 200)) A U H ∧ (∀ (i : Nat) (q : Nat × String), zStr[i]? = some q → vk_R RX6 q.1 q.2 (ad (-(i : Int) - 1)) U) ∧
  (∀ C ∈ zThr, va_Nw (.castable C C) U) ∧ ∀ C ∈ zSup, va_Nw (.declares (Bundle.init0 C)) U
theorem zE.warm {ad : Int → Nat} {A : Nat → Prop} {s U : State} {H : Heap} (hW : s.WarmedH U.vm) (h : zE ad A s H) : zE ad A U H := by
  obtain ⟨h1, h2, h3, h4, h5, h6, h7, h8, h9, h10⟩ := h
  exact ⟨fun q hq => va_Nw.warmM hW (h1 q hq), h2.moved hW.alike, h3.moved hW.alike, h4.moved hW.alike, va_Z.moved hW.alike h5, va_Zq.moved hW.alike h6, h7.moved hW.alike, fun i q hq => (h8 i q hq).warm hW, fun C hC => va_Nw.warmC hW (h9 C hC), fun C hC => va_Nw.warmD hW (h10 C hC)⟩
theorem zE.same {ad : Int → Nat} {A : Nat → Prop} {s U : State} {H : Heap} (hv : s.vm = U.vm) (h : zE ad A s H) : zE ad A U H := by
  obtain ⟨h1, h2, h3, h4, h5, h6, h7, h8, h9, h10⟩ := h
  have ha : s.vm.Alike U.vm := by rw [hv]; exact Vm.Alike.refl _
  exact ⟨fun q hq => va_Nw.same rfl hv (h1 q hq), h2.moved ha, h3.moved ha, h4.moved ha, va_Z.moved ha h5, va_Zq.moved ha h6, h7.moved ha, fun i q hq => (h8 i q hq).same hv.symm, fun C hC => va_Nw.same rfl hv (h9 C hC), fun C hC => va_Nw.same rfl hv (h10 C hC)⟩
theorem zE.kept {ad : Int → Nat} {A : Nat → Prop} {U : State} {H H1 : Heap} (h : zE ad A U H) (hq : ∀ a : Nat, a < H.size → ¬ A a → H1[a]? = H[a]?) : zE ad A U H1 := by
  obtain ⟨h1, h2, h3, h4, h5, h6, h7, h8, h9, h10⟩ := h
  exact ⟨h1, h2.kept hq, h3.kept hq, h4, va_Z.kept h5 hq, va_Zq.kept h6 hq, h7.kept hq, h8, h9, h10⟩
theorem zE.narrow {ad : Int → Nat} {A B : Nat → Prop} {U : State} {H : Heap} (h : zE ad A U H) (hAB : ∀ q, B q → A q) : zE ad B U H := by
  obtain ⟨h1, h2, h3, h4, h5, h6, h7, h8, h9, h10⟩ := h
  exact ⟨h1, h2.narrow hAB, h3.narrow hAB, h4, va_Z.narrow h5 hAB, va_Zq.narrow h6 hAB, h7.narrow hAB, h8, h9, h10⟩

/-- the locals that hold a known value, by their places -/
def lvl (ad : Int → Nat) (ls : List AV) : List (Nat × Value) := (ls.zipIdx.filter (fun q => q.1.isSome)).map (fun q => (q.2, zv ad q.1))
theorem lvl_mem {ad : Int → Nat} {ls : List AV} {i : Nat} {w : Value} : (i, w) ∈ lvl ad ls ↔ ∃ v : AV, ls[i]? = some v ∧ v.isSome = true ∧ w = zv ad v := by
  unfold lvl
  rw [List.mem_map]
  constructor
  · rintro ⟨⟨v, j⟩, hq, e⟩
    obtain ⟨h1, h2⟩ := List.mem_filter.mp hq
    have h3 := List.mem_zipIdx_iff_getElem?.mp h1
    cases e
    exact ⟨v, h3, h2, rfl⟩
  · rintro ⟨v, h1, h2, e⟩
    exact ⟨(v, i), List.mem_filter.mpr ⟨List.mem_zipIdx_iff_getElem?.mpr h1, h2⟩, by rw [e]⟩
abbrev zl (ad : Int → Nat) (ls : List AV) (nL : Nat) (ls' : Array Slot) : Prop := lv_has ls' nL (lvl ad ls)
theorem zl_at {ad : Int → Nat} {ls : List AV} {nL : Nat} {ls' : Array Slot} (h : zl ad ls nL ls') {i : Nat} {v : AV} (hi : ls[i]? = some v) (hv : v.isSome = true) : ls'[i]? = some (.val (zv ad v)) := h.2.2 (i, zv ad v) (lvl_mem.mpr ⟨v, hi, hv, rfl⟩)
/-- no long stands just ahead of place i -/
def nlg (ls : List AV) (i : Nat) : Bool := match i with
  | 0 => true
  | j + 1 => match ls[j]? with
    | some (some (.inr (.inl _))) => false
    | _ => true
theorem zl_sub {ad : Int → Nat} {ls ls2 : List AV} {nL : Nat} {ls' : Array Slot} (h : zl ad ls nL ls') (hs : ∀ (i : Nat) (v : AV), ls2[i]? = some v → v.isSome = true → ls[i]? = some v) : zl ad ls2 nL ls' :=
  ⟨h.1, h.2.1, fun q hq => by
    obtain ⟨i, w⟩ := q
    obtain ⟨v, h1, h2, h3⟩ := lvl_mem.mp hq
    exact h.2.2 _ (lvl_mem.mpr ⟨v, hs i v h1 h2, h2, h3⟩)⟩
theorem zl_set {ad : Int → Nat} {ls : List AV} {nL : Nat} {ls' : Array Slot} {i : Nat} {v : AV} {l : List (Nat × Value)} (hn : nlg ls i = true) (hl : (i, zv ad v) :: (lvl ad ls).filter (fun q => !(q.1 == i) && !(q.1 + 1 == i && q.2.category == 2)) = l) (h : lv_has ls' nL l) : zl ad (ls.set i v) nL ls' := by
  refine ⟨h.1, h.2.1, fun q hq => ?_⟩
  obtain ⟨j, w⟩ := q
  obtain ⟨u, h1, h2, h3⟩ := lvl_mem.mp hq
  refine h.2.2 _ ?_
  rw [← hl]
  by_cases hj : j = i
  · subst hj
    have : j < ls.length := by
      by_cases hlt : j < ls.length
      · exact hlt
      · rw [List.getElem?_eq_none (by rw [List.length_set]; omega)] at h1; cases h1
    rw [List.getElem?_set_self this] at h1
    cases h1
    rw [h3]
    exact List.mem_cons_self
  · rw [List.getElem?_set_ne (Ne.symm hj)] at h1
    refine List.mem_cons_of_mem _ (List.mem_filter.mpr ⟨lvl_mem.mpr ⟨u, h1, h2, h3⟩, ?_⟩)
    have h4 : ¬ (j + 1 = i ∧ w.category = 2) := by
      rintro ⟨e, hc⟩
      subst e
      rw [h3, zv_cat] at hc
      simp only [nlg, h1] at hn
      rcases u with _ | x | x | c
      · cases h2
      · simp [zcat] at hc
      · simp at hn
      · simp [zcat] at hc
    simp only [Bool.and_eq_true, Bool.not_eq_true', beq_eq_false_iff_ne, ne_eq, Bool.and_eq_false_iff]
    refine ⟨hj, ?_⟩
    by_cases e : j + 1 = i
    · exact Or.inr (fun z => h4 ⟨e, z⟩)
    · exact Or.inl e
/-- the heap holds the world -/
def zH (md : Bool) (D : va_G) (tc : Nat → ClassId) (ad : Int → Nat) (A : Nat → Prop) (H0 : Heap) (n : Nat) (h : AH) (H : Heap) (locs : List Loc) : Prop :=
  va_P D vwCl (zw md ad tc n h) H ∧ va_D A (zw md ad tc n h) ∧ va_S A H0 H locs
/-- while cells are made: so many came since the method's start, side by side -/
def zN (ad : Int → Nat) (s : State) (n cells : Nat) : Prop := ∃ n0 : Nat, n = n0 + cells ∧ ∀ j : Nat, ad ((n0 : Int) + 1 + j) = s.heap.size + j
/-- what room is left -/
def zB (k : KD) (b : Nat × Nat) (ad : Int → Nat) (s : State) (n cells slots : Nat) : Prop := cells + b.1 ≤ k.mc ∧ slots + b.2 ≤ k.ms ∧ (k.md = false → cells + b.1 = k.mc ∧ zN ad s n cells)
def zQc (Q : RS → Nat → AH → Prop) (md : Bool) (mc : Nat) (D : va_G) (tc : Nat → ClassId) (ad : Int → Nat) (A : Nat → Prop) : Array Value → State → Outcome → State → Prop := fun _ st o t =>
  (∃ (v : Option AV) (n : Nat) (h : AH), o = .returned (v.map (zv ad)) ∧ Q (.inl v) n h ∧ va_P D vwCl (zw md ad tc n h) t.heap ∧ va_D A (zw md ad tc n h) ∧ (md = false → zN ad st n mc)) ∧ va_F A st t
def zXc (Q : RS → Nat → AH → Prop) (md : Bool) (D : va_G) (tc : Nat → ClassId) (ad : Int → Nat) (A : Nat → Prop) : String → State → State → Prop := fun E st t =>
  (∃ (n : Nat) (h : AH), md = true ∧ Q (.inr E) n h ∧ va_P D vwCl (zw md ad tc n h) t.heap ∧ va_D A (zw md ad tc n h)) ∧ va_F A st t
/-- what the machine comes to at the end -/
def zFin (Y : YD) (k : KD) (Q : RS → Nat → AH → Prop) (D : va_G) (tc : Nat → ClassId) (ad : Int → Nat) (A : Nat → Prop) (below : List Frame) (args : Array Value) (s : State) : State → Prop :=
  if Y.law = true then lw_Z below args s else vx_MQ below (zQc Q k.md k.mc D tc ad A) (zXc Q k.md D tc ad A) args s k.mc k.ms A
abbrev zlaw (Y : YD) (k : KD) (R : Room) (s : State) (args : Array Value) (A : Nat → Prop) (ad : Int → Nat) (Q : RS → Nat → AH → Prop) : Prop :=
  (Y.cd = code ∧ Y.ret = ret) ∧ R = room_1 ∧ args = #[.ref (ad (-100))] ∧ va_X (ad (-100)) k.L (fun j => Int32.ofInt (k.xs j)) s s.heap ∧ ad (-100) < s.heap.size ∧ ¬ A (ad (-100)) ∧ k.mc = 600128 ∧ k.ms = 7301097 ∧ (∀ (v : Option AV) (n : Nat) (h : AH), Q (.inl v) n h → v = some (zI 1)) ∧ ∀ q, A q → s.heap.size ≤ q
/-- what stays the same along a method's body -/
def zC (Y : YD) (k : KD) (Q : RS → Nat → AH → Prop) (p : Program) (l : Launch) (R : Room) (s : State) (m : MethodId) (args : Array Value) (meth : Method) (c : Code) (A : Nat → Prop) (D : va_G) (tc : Nat → ClassId) (ad : Int → Nat) : Prop :=
  (p.tables.exec = Jvm.exec ∧ c.code = Y.cd ∧ c.maxLocals = Y.nL ∧ meth.sig.returnType = Y.ret ∧ meth.locks = false) ∧ s.vm.findClass Y.own = some m.cls ∧ (∀ w ∈ GW, w.before args s = true) ∧ va_K D vwCl (ztys tc) s ∧ (∀ q, s.heap.size ≤ q → A q) ∧ (k.fr ≤ R.frames ∧ 60 * k.fr ≤ R.locals ∧ k.mc ≤ R.cells ∧ k.ms ≤ R.slots) ∧ l.stackTraces = false ∧ zE ad A s s.heap ∧ (Y.ini = true → meth.name = "<init>") ∧ c.exceptionTable.toList = tableOf Y.exc ∧ (Y.law = true → zlaw Y k R s args A ad Q)
/-- from here the method ends well -/
def Wp (Y : YD) (k : KD) (Q : RS → Nat → AH → Prop) (b : Nat × Nat) (pc : Nat) (ls st : List AV) (n : Nat) (h : AH) : Prop :=
  ∀ (p : Program) (l : Launch) (e : Env) (R : Room) (s : State) (m : MethodId) (args : Array Value) (below : List Frame) (meth : Method) (c : Code) (A : Nat → Prop) (D : va_G) (tc : Nat → ClassId) (ad : Int → Nat) (H : Heap) (locs : List Loc) (cells slots : Nat) (ls' : Array Slot),
    zC Y k Q p l R s m args meth c A D tc ad → zH k.md D tc ad A s.heap n h H locs → zB k b ad s n cells slots → zl ad ls Y.nL ls' →
    W p l e R s m args below meth c H locs cells slots (zFin Y k Q D tc ad A below args s) (F0 m pc ls' (st.map (zv ad)))
