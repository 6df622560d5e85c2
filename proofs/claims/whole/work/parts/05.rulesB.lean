section RulesB
variable {Y : YD} {k : KD} {Q : RS → Nat → AH → Prop} {b : Nat × Nat} {pc : Nat} {ls st : List AV} {n : Nat} {h : AH}

theorem s_dup {v : AV} (hd : decode Y.cd pc = .ok (.dup, 1)) (hv : zcat v = 1) (kk : Wp Y k Q b (pc + 1) ls (v :: v :: st) n h) : Wp Y k Q b pc ls (v :: st) n h := by
  intro p l e R s m args below meth c A D tc ad H locs cells slots ls' C hH hB hl
  have C0 := C
  obtain ⟨⟨hx, hb, hml, hr, hlk⟩, hown, hts, hK, hA, hR, hst, hE, hin, hexc, hlaw⟩ := C0
  exact lv_dup hx hb hd ((zv_cat ad v).trans hv) (kk p l e R s m args below meth c A D tc ad H locs cells slots ls' C hH hB hl)

theorem s_pop {v : AV} (hd : decode Y.cd pc = .ok (.pop, 1)) (hv : zcat v = 1) (kk : Wp Y k Q b (pc + 1) ls st n h) : Wp Y k Q b pc ls (v :: st) n h := by
  intro p l e R s m args below meth c A D tc ad H locs cells slots ls' C hH hB hl
  have C0 := C
  obtain ⟨⟨hx, hb, hml, hr, hlk⟩, hown, hts, hK, hA, hR, hst, hE, hin, hexc, hlaw⟩ := C0
  exact lv_pop hx hb hd ((zv_cat ad v).trans hv) (kk p l e R s m args below meth c A D tc ad H locs cells slots ls' C hH hB hl)

theorem s_dup_x1 {v w : AV} (hd : decode Y.cd pc = .ok (.dup_x1, 1)) (hv : zcat v = 1) (hw : zcat w = 1) (kk : Wp Y k Q b (pc + 1) ls (v :: w :: v :: st) n h) : Wp Y k Q b pc ls (v :: w :: st) n h := by
  intro p l e R s m args below meth c A D tc ad H locs cells slots ls' C hH hB hl
  have C0 := C
  obtain ⟨⟨hx, hb, hml, hr, hlk⟩, hown, hts, hK, hA, hR, hst, hE, hin, hexc, hlaw⟩ := C0
  exact lv_dup_x1 hx hb hd ((zv_cat ad v).trans hv) ((zv_cat ad w).trans hw) (kk p l e R s m args below meth c A D tc ad H locs cells slots ls' C hH hB hl)

theorem s_dup2 {v w : AV} (hd : decode Y.cd pc = .ok (.dup2, 1)) (hv : zcat v = 1) (hw : zcat w = 1) (kk : Wp Y k Q b (pc + 1) ls (v :: w :: v :: w :: st) n h) : Wp Y k Q b pc ls (v :: w :: st) n h := by
  intro p l e R s m args below meth c A D tc ad H locs cells slots ls' C hH hB hl
  have C0 := C
  obtain ⟨⟨hx, hb, hml, hr, hlk⟩, hown, hts, hK, hA, hR, hst, hE, hin, hexc, hlaw⟩ := C0
  exact lv_dup2_11 hx hb hd ((zv_cat ad v).trans hv) ((zv_cat ad w).trans hw) (kk p l e R s m args below meth c A D tc ad H locs cells slots ls' C hH hB hl)

theorem s_dup2l {x : Int} (hd : decode Y.cd pc = .ok (.dup2, 1)) (kk : Wp Y k Q b (pc + 1) ls (zL x :: zL x :: st) n h) : Wp Y k Q b pc ls (zL x :: st) n h := by
  intro p l e R s m args below meth c A D tc ad H locs cells slots ls' C hH hB hl
  have C0 := C
  obtain ⟨⟨hx, hb, hml, hr, hlk⟩, hown, hts, hK, hA, hR, hst, hE, hin, hexc, hlaw⟩ := C0
  exact lv_dup2_2 hx hb hd rfl (kk p l e R s m args below meth c A D tc ad H locs cells slots ls' C hH hB hl)

theorem s_goto {off : Int} {tgt : Nat} (hd : decode Y.cd pc = .ok (.goto off, 3)) (ht : (pc : Int) + off = (tgt : Int)) (kk : Wp Y k Q b tgt ls st n h) : Wp Y k Q b pc ls st n h := by
  intro p l e R s m args below meth c A D tc ad H locs cells slots ls' C hH hB hl
  have C0 := C
  obtain ⟨⟨hx, hb, hml, hr, hlk⟩, hown, hts, hK, hA, hR, hst, hE, hin, hexc, hlaw⟩ := C0
  exact lv_goto hx hb hd ht (kk p l e R s m args below meth c A D tc ad H locs cells slots ls' C hH hB hl)

theorem s_icmp_eq {x y : Int} {off : Int} {tgt : Nat} (hd : decode Y.cd pc = .ok (.if_icmp .eq off, 3)) (ht : (pc : Int) + off = (tgt : Int)) (rx : R32 x) (ry : R32 y) (kt : x = y → Wp Y k Q b tgt ls st n h) (kf : ¬ x = y → Wp Y k Q b (pc + 3) ls st n h) : Wp Y k Q b pc ls (zI y :: zI x :: st) n h := by
  intro p l e R s m args below meth c A D tc ad H locs cells slots ls' C hH hB hl
  have C0 := C
  obtain ⟨⟨hx, hb, hml, hr, hlk⟩, hown, hts, hK, hA, hR, hst, hE, hin, hexc, hlaw⟩ := C0
  exact lv_icmp_eq hx hb hd ht (fun q => kt ((i32eq rx ry).mp q) p l e R s m args below meth c A D tc ad H locs cells slots ls' C hH hB hl) (fun q => kf (fun z => q ((i32eq rx ry).mpr z)) p l e R s m args below meth c A D tc ad H locs cells slots ls' C hH hB hl)

theorem s_if_eq {x : Int} {off : Int} {tgt : Nat} (hd : decode Y.cd pc = .ok (.ifCond .eq off, 3)) (ht : (pc : Int) + off = (tgt : Int)) (rx : R32 x) (kt : x = 0 → Wp Y k Q b tgt ls st n h) (kf : ¬ x = 0 → Wp Y k Q b (pc + 3) ls st n h) : Wp Y k Q b pc ls (zI x :: st) n h := by
  intro p l e R s m args below meth c A D tc ad H locs cells slots ls' C hH hB hl
  have C0 := C
  obtain ⟨⟨hx, hb, hml, hr, hlk⟩, hown, hts, hK, hA, hR, hst, hE, hin, hexc, hlaw⟩ := C0
  have ry := R32_0
  exact lv_if_eq hx hb hd ht (fun q => kt ((i32eq rx ry).mp q) p l e R s m args below meth c A D tc ad H locs cells slots ls' C hH hB hl) (fun q => kf (fun z => q ((i32eq rx ry).mpr z)) p l e R s m args below meth c A D tc ad H locs cells slots ls' C hH hB hl)

theorem s_icmp_ne {x y : Int} {off : Int} {tgt : Nat} (hd : decode Y.cd pc = .ok (.if_icmp .ne off, 3)) (ht : (pc : Int) + off = (tgt : Int)) (rx : R32 x) (ry : R32 y) (kt : ¬ x = y → Wp Y k Q b tgt ls st n h) (kf : x = y → Wp Y k Q b (pc + 3) ls st n h) : Wp Y k Q b pc ls (zI y :: zI x :: st) n h := by
  intro p l e R s m args below meth c A D tc ad H locs cells slots ls' C hH hB hl
  have C0 := C
  obtain ⟨⟨hx, hb, hml, hr, hlk⟩, hown, hts, hK, hA, hR, hst, hE, hin, hexc, hlaw⟩ := C0
  exact lv_icmp_ne hx hb hd ht (fun q => kt (fun z => q ((i32eq rx ry).mpr z)) p l e R s m args below meth c A D tc ad H locs cells slots ls' C hH hB hl) (fun q => kf ((i32eq rx ry).mp q) p l e R s m args below meth c A D tc ad H locs cells slots ls' C hH hB hl)

theorem s_if_ne {x : Int} {off : Int} {tgt : Nat} (hd : decode Y.cd pc = .ok (.ifCond .ne off, 3)) (ht : (pc : Int) + off = (tgt : Int)) (rx : R32 x) (kt : ¬ x = 0 → Wp Y k Q b tgt ls st n h) (kf : x = 0 → Wp Y k Q b (pc + 3) ls st n h) : Wp Y k Q b pc ls (zI x :: st) n h := by
  intro p l e R s m args below meth c A D tc ad H locs cells slots ls' C hH hB hl
  have C0 := C
  obtain ⟨⟨hx, hb, hml, hr, hlk⟩, hown, hts, hK, hA, hR, hst, hE, hin, hexc, hlaw⟩ := C0
  have ry := R32_0
  exact lv_if_ne hx hb hd ht (fun q => kt (fun z => q ((i32eq rx ry).mpr z)) p l e R s m args below meth c A D tc ad H locs cells slots ls' C hH hB hl) (fun q => kf ((i32eq rx ry).mp q) p l e R s m args below meth c A D tc ad H locs cells slots ls' C hH hB hl)

theorem s_icmp_lt {x y : Int} {off : Int} {tgt : Nat} (hd : decode Y.cd pc = .ok (.if_icmp .lt off, 3)) (ht : (pc : Int) + off = (tgt : Int)) (rx : R32 x) (ry : R32 y) (kt : x < y → Wp Y k Q b tgt ls st n h) (kf : y ≤ x → Wp Y k Q b (pc + 3) ls st n h) : Wp Y k Q b pc ls (zI y :: zI x :: st) n h := by
  intro p l e R s m args below meth c A D tc ad H locs cells slots ls' C hH hB hl
  have C0 := C
  obtain ⟨⟨hx, hb, hml, hr, hlk⟩, hown, hts, hK, hA, hR, hst, hE, hin, hexc, hlaw⟩ := C0
  exact lv_icmp_lt hx hb hd ht (fun q => kt ((i32lt rx ry).mp q) p l e R s m args below meth c A D tc ad H locs cells slots ls' C hH hB hl) (fun q => kf (Int.not_lt.mp (fun z => q ((i32lt rx ry).mpr z))) p l e R s m args below meth c A D tc ad H locs cells slots ls' C hH hB hl)

theorem s_if_lt {x : Int} {off : Int} {tgt : Nat} (hd : decode Y.cd pc = .ok (.ifCond .lt off, 3)) (ht : (pc : Int) + off = (tgt : Int)) (rx : R32 x) (kt : x < 0 → Wp Y k Q b tgt ls st n h) (kf : 0 ≤ x → Wp Y k Q b (pc + 3) ls st n h) : Wp Y k Q b pc ls (zI x :: st) n h := by
  intro p l e R s m args below meth c A D tc ad H locs cells slots ls' C hH hB hl
  have C0 := C
  obtain ⟨⟨hx, hb, hml, hr, hlk⟩, hown, hts, hK, hA, hR, hst, hE, hin, hexc, hlaw⟩ := C0
  have ry := R32_0
  exact lv_if_lt hx hb hd ht (fun q => kt ((i32lt rx ry).mp q) p l e R s m args below meth c A D tc ad H locs cells slots ls' C hH hB hl) (fun q => kf (Int.not_lt.mp (fun z => q ((i32lt rx ry).mpr z))) p l e R s m args below meth c A D tc ad H locs cells slots ls' C hH hB hl)

theorem s_icmp_ge {x y : Int} {off : Int} {tgt : Nat} (hd : decode Y.cd pc = .ok (.if_icmp .ge off, 3)) (ht : (pc : Int) + off = (tgt : Int)) (rx : R32 x) (ry : R32 y) (kt : y ≤ x → Wp Y k Q b tgt ls st n h) (kf : x < y → Wp Y k Q b (pc + 3) ls st n h) : Wp Y k Q b pc ls (zI y :: zI x :: st) n h := by
  intro p l e R s m args below meth c A D tc ad H locs cells slots ls' C hH hB hl
  have C0 := C
  obtain ⟨⟨hx, hb, hml, hr, hlk⟩, hown, hts, hK, hA, hR, hst, hE, hin, hexc, hlaw⟩ := C0
  exact lv_icmp_ge hx hb hd ht (fun q => kt ((i32le ry rx).mp q) p l e R s m args below meth c A D tc ad H locs cells slots ls' C hH hB hl) (fun q => kf (Int.not_le.mp (fun z => q ((i32le ry rx).mpr z))) p l e R s m args below meth c A D tc ad H locs cells slots ls' C hH hB hl)

theorem s_if_ge {x : Int} {off : Int} {tgt : Nat} (hd : decode Y.cd pc = .ok (.ifCond .ge off, 3)) (ht : (pc : Int) + off = (tgt : Int)) (rx : R32 x) (kt : 0 ≤ x → Wp Y k Q b tgt ls st n h) (kf : x < 0 → Wp Y k Q b (pc + 3) ls st n h) : Wp Y k Q b pc ls (zI x :: st) n h := by
  intro p l e R s m args below meth c A D tc ad H locs cells slots ls' C hH hB hl
  have C0 := C
  obtain ⟨⟨hx, hb, hml, hr, hlk⟩, hown, hts, hK, hA, hR, hst, hE, hin, hexc, hlaw⟩ := C0
  have ry := R32_0
  exact lv_if_ge hx hb hd ht (fun q => kt ((i32le ry rx).mp q) p l e R s m args below meth c A D tc ad H locs cells slots ls' C hH hB hl) (fun q => kf (Int.not_le.mp (fun z => q ((i32le ry rx).mpr z))) p l e R s m args below meth c A D tc ad H locs cells slots ls' C hH hB hl)

theorem s_icmp_gt {x y : Int} {off : Int} {tgt : Nat} (hd : decode Y.cd pc = .ok (.if_icmp .gt off, 3)) (ht : (pc : Int) + off = (tgt : Int)) (rx : R32 x) (ry : R32 y) (kt : y < x → Wp Y k Q b tgt ls st n h) (kf : x ≤ y → Wp Y k Q b (pc + 3) ls st n h) : Wp Y k Q b pc ls (zI y :: zI x :: st) n h := by
  intro p l e R s m args below meth c A D tc ad H locs cells slots ls' C hH hB hl
  have C0 := C
  obtain ⟨⟨hx, hb, hml, hr, hlk⟩, hown, hts, hK, hA, hR, hst, hE, hin, hexc, hlaw⟩ := C0
  exact lv_icmp_gt hx hb hd ht (fun q => kt ((i32lt ry rx).mp q) p l e R s m args below meth c A D tc ad H locs cells slots ls' C hH hB hl) (fun q => kf (Int.not_lt.mp (fun z => q ((i32lt ry rx).mpr z))) p l e R s m args below meth c A D tc ad H locs cells slots ls' C hH hB hl)

theorem s_if_gt {x : Int} {off : Int} {tgt : Nat} (hd : decode Y.cd pc = .ok (.ifCond .gt off, 3)) (ht : (pc : Int) + off = (tgt : Int)) (rx : R32 x) (kt : 0 < x → Wp Y k Q b tgt ls st n h) (kf : x ≤ 0 → Wp Y k Q b (pc + 3) ls st n h) : Wp Y k Q b pc ls (zI x :: st) n h := by
  intro p l e R s m args below meth c A D tc ad H locs cells slots ls' C hH hB hl
  have C0 := C
  obtain ⟨⟨hx, hb, hml, hr, hlk⟩, hown, hts, hK, hA, hR, hst, hE, hin, hexc, hlaw⟩ := C0
  have ry := R32_0
  exact lv_if_gt hx hb hd ht (fun q => kt ((i32lt ry rx).mp q) p l e R s m args below meth c A D tc ad H locs cells slots ls' C hH hB hl) (fun q => kf (Int.not_lt.mp (fun z => q ((i32lt ry rx).mpr z))) p l e R s m args below meth c A D tc ad H locs cells slots ls' C hH hB hl)

theorem s_icmp_le {x y : Int} {off : Int} {tgt : Nat} (hd : decode Y.cd pc = .ok (.if_icmp .le off, 3)) (ht : (pc : Int) + off = (tgt : Int)) (rx : R32 x) (ry : R32 y) (kt : x ≤ y → Wp Y k Q b tgt ls st n h) (kf : y < x → Wp Y k Q b (pc + 3) ls st n h) : Wp Y k Q b pc ls (zI y :: zI x :: st) n h := by
  intro p l e R s m args below meth c A D tc ad H locs cells slots ls' C hH hB hl
  have C0 := C
  obtain ⟨⟨hx, hb, hml, hr, hlk⟩, hown, hts, hK, hA, hR, hst, hE, hin, hexc, hlaw⟩ := C0
  exact lv_icmp_le hx hb hd ht (fun q => kt ((i32le rx ry).mp q) p l e R s m args below meth c A D tc ad H locs cells slots ls' C hH hB hl) (fun q => kf (Int.not_le.mp (fun z => q ((i32le rx ry).mpr z))) p l e R s m args below meth c A D tc ad H locs cells slots ls' C hH hB hl)

theorem s_if_le {x : Int} {off : Int} {tgt : Nat} (hd : decode Y.cd pc = .ok (.ifCond .le off, 3)) (ht : (pc : Int) + off = (tgt : Int)) (rx : R32 x) (kt : x ≤ 0 → Wp Y k Q b tgt ls st n h) (kf : 0 < x → Wp Y k Q b (pc + 3) ls st n h) : Wp Y k Q b pc ls (zI x :: st) n h := by
  intro p l e R s m args below meth c A D tc ad H locs cells slots ls' C hH hB hl
  have C0 := C
  obtain ⟨⟨hx, hb, hml, hr, hlk⟩, hown, hts, hK, hA, hR, hst, hE, hin, hexc, hlaw⟩ := C0
  have ry := R32_0
  exact lv_if_le hx hb hd ht (fun q => kt ((i32le rx ry).mp q) p l e R s m args below meth c A D tc ad H locs cells slots ls' C hH hB hl) (fun q => kf (Int.not_le.mp (fun z => q ((i32le rx ry).mpr z))) p l e R s m args below meth c A D tc ad H locs cells slots ls' C hH hB hl)

theorem s_tableIn {x : Int} {dflt lo hi off : Int} {offs : Array Int} {len tgt : Nat} (hd : decode Y.cd pc = .ok (.tableswitch dflt lo hi offs, len)) (rx : R32 x) (g1 : lo ≤ x) (g2 : x ≤ hi) (ho : offs[(x - lo).toNat]? = some off) (ht : (pc : Int) + off = (tgt : Int)) (kk : Wp Y k Q b tgt ls st n h) : Wp Y k Q b pc ls (zI x :: st) n h := by
  intro p l e R s m args below meth c A D tc ad H locs cells slots ls' C hH hB hl
  have C0 := C
  obtain ⟨⟨hx, hb, hml, hr, hlk⟩, hown, hts, hK, hA, hR, hst, hE, hin, hexc, hlaw⟩ := C0
  exact lv_tableIn hx hb hd (by rw [toInt32 rx]; omega) (by rw [toInt32 rx]; omega) (by rw [toInt32 rx]; exact ho) ht (kk p l e R s m args below meth c A D tc ad H locs cells slots ls' C hH hB hl)
theorem s_tableOut {x : Int} {dflt lo hi : Int} {offs : Array Int} {len tgt : Nat} (hd : decode Y.cd pc = .ok (.tableswitch dflt lo hi offs, len)) (rx : R32 x) (g : x < lo ∨ hi < x) (ht : (pc : Int) + dflt = (tgt : Int)) (kk : Wp Y k Q b tgt ls st n h) : Wp Y k Q b pc ls (zI x :: st) n h := by
  intro p l e R s m args below meth c A D tc ad H locs cells slots ls' C hH hB hl
  have C0 := C
  obtain ⟨⟨hx, hb, hml, hr, hlk⟩, hown, hts, hK, hA, hR, hst, hE, hin, hexc, hlaw⟩ := C0
  exact lv_tableOut hx hb hd (by rw [toInt32 rx]; exact g) ht (kk p l e R s m args below meth c A D tc ad H locs cells slots ls' C hH hB hl)
theorem s_lcmp {x y : Int} (hd : decode Y.cd pc = .ok (.lcmp, 1)) (kk : Wp Y k Q b (pc + 1) ls (zI (lg_cmp (Int64.ofInt x) (Int64.ofInt y)).toInt :: st) n h) : Wp Y k Q b pc ls (zL y :: zL x :: st) n h := by
  intro p l e R s m args below meth c A D tc ad H locs cells slots ls' C hH hB hl
  have C0 := C
  obtain ⟨⟨hx, hb, hml, hr, hlk⟩, hown, hts, hK, hA, hR, hst, hE, hin, hexc, hlaw⟩ := C0
  have q := kk p l e R s m args below meth c A D tc ad H locs cells slots ls' C hH hB hl
  rw [List.map_cons, show ∀ z : Int32, zv ad (zI z.toInt) = .int (Int32.ofInt z.toInt) from fun _ => rfl, ofI] at q
  exact W.lcmp hx hb hd q
end RulesB
/-! ===== classes and fields ===== -/
def isRefT (ty : FieldType) : Bool := match ty with
  | .object _ => true
  | .array _ => true
  | _ => false
/-- a field's code against its type -/
def tkb (q : Option (Nat × Int)) (ty : FieldType) (fin : Bool) : Bool := match q with
  | some (0, _) => decide (ty = .int) && !fin
  | some (1, _) => decide (ty = .boolean) && !fin
  | some (2, _) => decide (ty = .long) && !fin
  | some (3, _) => isRefT ty && !fin
  | some (4, _) => isRefT ty && fin
  | _ => false
def CI (ci N : Nat) (C : String) (T : u_T) (ty : Nat → FieldType) : Prop := vwCl[ci]? = some (C, T, N) ∧ (∀ w ∈ u_ws C T N, w ∈ GW) ∧ (∀ k, k < N → parseFieldDescriptor (T k).2.2.1 = some (ty k)) ∧ (∀ a, a < N → ∀ b, b < N → a ≠ b → (T a).2.1 ≠ (T b).2.1) ∧ (FT.getD ci []).length = N ∧ ci < 100 ∧ ∀ k, k < N → tkb (FT.getD ci [])[k]? (ty k) (T k).2.2.2 = true
def Fk (own : String) (idx ci N kf t : Nat) (off : Int) : Prop := ∃ (C : String) (T : u_T) (ty : Nat → FieldType), CI ci N C T ty ∧ kf < N ∧ (FT.getD ci [])[kf]? = some (t, off) ∧ Cond.fieldLink own idx (T kf).1 (T kf).2.1 (T kf).2.2.1 ∈ GW
theorem zc_obj {md : Bool} {ad : Int → Nat} {tc : Nat → ClassId} {h : AH} {c : Int} {ci N : Nat} (hlt : ci < 100) : zc md ad tc h c (ci, N) = .inr (ci, zfs md ad h c (FT.getD ci [])) := by
  unfold zc
  rw [if_neg (by show ¬ ci = 100; omega), if_neg (by show ¬ ci = 101; omega), if_neg (by show ¬ ci = 102; omega), if_neg (by show ¬ ci = 103; omega)]
theorem zfs_get {md : Bool} {ad : Int → Nat} {h : AH} {c : Int} {ts : List (Nat × Int)} {kf : Nat} {t : Nat × Int} (ht : ts[kf]? = some t) : (zfs md ad h c ts)[kf]? = some (zf md ad h c kf t) := by
  unfold zfs
  rw [List.getElem?_mapIdx, ht]
  rfl
theorem zfs_set {md : Bool} {ad : Int → Nat} {h : AH} {c x : Int} {ts : List (Nat × Int)} {kf : Nat} {t : Nat × Int} {v : Value} (ht : ts[kf]? = some t) (hv : zf md ad (up h c kf x) c kf t = v) : (zfs md ad h c ts).set kf v = zfs md ad (up h c kf x) c ts := by
  apply List.ext_getElem?
  intro j
  by_cases hj : j = kf
  · subst hj
    rw [zfs_get ht, hv, List.getElem?_set_self]
    unfold zfs
    rw [List.length_mapIdx]
    exact (List.getElem?_eq_some_iff.mp ht).1
  · rw [List.getElem?_set_ne (Ne.symm hj)]
    unfold zfs
    rw [List.getElem?_mapIdx, List.getElem?_mapIdx]
    have e : up h c kf x c j = h c j := up_cn (by omega)
    unfold zf
    rw [e]
section RulesC
variable {Y : YD} {k : KD} {Q : RS → Nat → AH → Prop} {b : Nat × Nat} {pc : Nat} {ls st : List AV} {n : Nat} {h : AH}

theorem s_get {idx ci N kf t : Nat} {off c : Int} (hd : decode Y.cd pc = .ok (.getfield idx, 3)) (hf : Fk Y.own idx ci N kf t off) (hc : cel n c (ci, N)) (ht : t ≤ 1) (kk : Wp Y k Q b (pc + 3) ls (zI (h c kf) :: st) n h) : Wp Y k Q b pc ls (zR c :: st) n h := by
  intro p l e R s m args below meth cd A D tc ad H locs cells slots ls' C hH hB hl
  have C0 := C
  obtain ⟨⟨hx, hb, hml, hr, hlk⟩, hown, hts, hK, hA, hR, hst, hE, hin, hexc, hlaw⟩ := C0
  obtain ⟨C1, T1, ty1, ⟨hcl, hinT, hty, hnm, hlen, hlt, htk⟩, hk, hft, hw⟩ := hf
  have hg := zw_get (md := k.md) (ad := ad) (tc := tc) (h := h) hc
  rw [zc_obj hlt] at hg
  have hv := zfs_get (md := k.md) (ad := ad) (h := h) (c := c) hft
  have q := kk p l e R s m args below meth cd A D tc ad H locs cells slots ls' C hH hB hl
  rw [List.map_cons] at q
  have ev : zf k.md ad h c kf (t, off) = zv ad (zI (h c kf)) := by simp [zf, ht, zv, zI]
  rw [← ev] at q
  rw [List.map_cons, zv_ref (by have := hc.1; omega)]
  exact va_get hx hb hts hinT hown hK hH.1 _ hg hcl kf hk (hts _ hw) (fun _ z => z) hv hd q

theorem s_getL {idx ci N kf t : Nat} {off c : Int} (hd : decode Y.cd pc = .ok (.getfield idx, 3)) (hf : Fk Y.own idx ci N kf t off) (hc : cel n c (ci, N)) (ht : t = 2) (kk : Wp Y k Q b (pc + 3) ls (zL (h c kf) :: st) n h) : Wp Y k Q b pc ls (zR c :: st) n h := by
  intro p l e R s m args below meth cd A D tc ad H locs cells slots ls' C hH hB hl
  have C0 := C
  obtain ⟨⟨hx, hb, hml, hr, hlk⟩, hown, hts, hK, hA, hR, hst, hE, hin, hexc, hlaw⟩ := C0
  obtain ⟨C1, T1, ty1, ⟨hcl, hinT, hty, hnm, hlen, hlt, htk⟩, hk, hft, hw⟩ := hf
  have hg := zw_get (md := k.md) (ad := ad) (tc := tc) (h := h) hc
  rw [zc_obj hlt] at hg
  have hv := zfs_get (md := k.md) (ad := ad) (h := h) (c := c) hft
  have q := kk p l e R s m args below meth cd A D tc ad H locs cells slots ls' C hH hB hl
  rw [List.map_cons] at q
  have ev : zf k.md ad h c kf (t, off) = zv ad (zL (h c kf)) := by simp [zf, ht, zv, zL]
  rw [← ev] at q
  rw [List.map_cons, zv_ref (by have := hc.1; omega)]
  exact va_get hx hb hts hinT hown hK hH.1 _ hg hcl kf hk (hts _ hw) (fun _ z => z) hv hd q

theorem s_getR {idx ci N kf t : Nat} {off c : Int} (hd : decode Y.cd pc = .ok (.getfield idx, 3)) (hf : Fk Y.own idx ci N kf t off) (hc : cel n c (ci, N)) (ht : t = 3) (kk : Wp Y k Q b (pc + 3) ls (zR (h c kf) :: st) n h) : Wp Y k Q b pc ls (zR c :: st) n h := by
  intro p l e R s m args below meth cd A D tc ad H locs cells slots ls' C hH hB hl
  have C0 := C
  obtain ⟨⟨hx, hb, hml, hr, hlk⟩, hown, hts, hK, hA, hR, hst, hE, hin, hexc, hlaw⟩ := C0
  obtain ⟨C1, T1, ty1, ⟨hcl, hinT, hty, hnm, hlen, hlt, htk⟩, hk, hft, hw⟩ := hf
  have hg := zw_get (md := k.md) (ad := ad) (tc := tc) (h := h) hc
  rw [zc_obj hlt] at hg
  have hv := zfs_get (md := k.md) (ad := ad) (h := h) (c := c) hft
  have q := kk p l e R s m args below meth cd A D tc ad H locs cells slots ls' C hH hB hl
  rw [List.map_cons] at q
  have ev : zf k.md ad h c kf (t, off) = zv ad (zR (h c kf)) := by simp [zf, ht]
  rw [← ev] at q
  rw [List.map_cons, zv_ref (by have := hc.1; omega)]
  exact va_get hx hb hts hinT hown hK hH.1 _ hg hcl kf hk (hts _ hw) (fun _ z => z) hv hd q

theorem s_getF {idx ci N kf t : Nat} {off c : Int} (hd : decode Y.cd pc = .ok (.getfield idx, 3)) (hf : Fk Y.own idx ci N kf t off) (hc : cel n c (ci, N)) (ht : t = 4) (hm : k.md = true ∨ h c kf ≠ 0) (ho : c + off ≠ 0) (kk : Wp Y k Q b (pc + 3) ls (zR (c + off) :: st) n h) : Wp Y k Q b pc ls (zR c :: st) n h := by
  intro p l e R s m args below meth cd A D tc ad H locs cells slots ls' C hH hB hl
  have C0 := C
  obtain ⟨⟨hx, hb, hml, hr, hlk⟩, hown, hts, hK, hA, hR, hst, hE, hin, hexc, hlaw⟩ := C0
  obtain ⟨C1, T1, ty1, ⟨hcl, hinT, hty, hnm, hlen, hlt, htk⟩, hk, hft, hw⟩ := hf
  have hg := zw_get (md := k.md) (ad := ad) (tc := tc) (h := h) hc
  rw [zc_obj hlt] at hg
  have hv := zfs_get (md := k.md) (ad := ad) (h := h) (c := c) hft
  have q := kk p l e R s m args below meth cd A D tc ad H locs cells slots ls' C hH hB hl
  rw [List.map_cons] at q
  have ev : zf k.md ad h c kf (t, off) = zv ad (zR (c + off)) := by rw [zv_ref ho]; unfold zf; rw [if_neg (by show ¬ t ≤ 1; omega), if_neg (by show ¬ t = 2; omega), if_neg (by show ¬ t = 3; omega), if_pos hm]
  rw [← ev] at q
  rw [List.map_cons, zv_ref (by have := hc.1; omega)]
  exact va_get hx hb hts hinT hown hK hH.1 _ hg hcl kf hk (hts _ hw) (fun _ z => z) hv hd q

theorem s_put {idx ci N kf : Nat} {off c x : Int} (hd : decode Y.cd pc = .ok (.putfield idx, 3)) (hf : Fk Y.own idx ci N kf 0 off) (hc : cel n c (ci, N))  (kk : Wp Y k Q b (pc + 3) ls st n (up h c kf x)) : Wp Y k Q b pc ls (zI x :: zR c :: st) n h := by
  intro p l e R s m args below meth cd A D tc ad H locs cells slots ls' C hH hB hl
  have C0 := C
  obtain ⟨⟨hx, hb, hml, hr, hlk⟩, hown, hts, hK, hA, hR, hst, hE, hin, hexc, hlaw⟩ := C0
  obtain ⟨C1, T1, ty1, ⟨hcl, hinT, hty, hnm, hlen, hlt, htk⟩, hk, hft, hw⟩ := hf
  have hg := zw_get (md := k.md) (ad := ad) (tc := tc) (h := h) hc
  rw [zc_obj hlt] at hg
  have tk := htk kf hk
  rw [hft] at tk
  simp only [tkb, Bool.and_eq_true, decide_eq_true_eq, Bool.not_eq_true'] at tk
  obtain ⟨tk1, hfi⟩ := tk
  have hna : narrow (ty1 kf) (.int (Int32.ofInt x)) = .int (Int32.ofInt x) := by rw [tk1]; rfl
  have hfit : fits (ty1 kf) (.int (Int32.ofInt x)) = true := by rw [tk1]; rfl
  have ev : zf k.md ad (up h c kf x) c kf (0, off) = .int (Int32.ofInt x) := by simp [zf, up_ci]
  have hl0 : kf < (zfs k.md ad h c (FT.getD ci [])).length := by unfold zfs; rw [List.length_mapIdx, hlen]; exact hk
  have ew : (zw k.md ad tc n h).set (c - 1).toNat (ad c, .inr (ci, (zfs k.md ad h c (FT.getD ci [])).set kf (.int (Int32.ofInt x)))) = zw k.md ad tc n (up h c kf x) :=
    zw_set hc (by rw [zc_obj hlt, zfs_set hft ev]) (fun c' z => up_n z)
  rw [List.map_cons, List.map_cons, zv_ref (c := c) (by have := hc.1; omega)]
  have rr : zv ad (zI x) = .int (Int32.ofInt x) := rfl
  rw [rr]
  refine va_put hx hb hts hinT ty1 hty hnm hown hK hH.1 hH.2.1 hH.2.2 _ hg hcl kf hk (hts _ hw) (fun _ z => z) hfi (hty kf hk) hna hfit hl0 hd (fun H1 locs1 hP1 hD1 hS1 => ?_)
  rw [ew] at hP1 hD1
  exact kk p l e R s m args below meth cd A D tc ad H1 locs1 cells slots ls' C ⟨hP1, hD1, hS1⟩ hB hl

theorem s_putZ {idx ci N kf : Nat} {off c x : Int} (hd : decode Y.cd pc = .ok (.putfield idx, 3)) (hf : Fk Y.own idx ci N kf 1 off) (hc : cel n c (ci, N))  (hv : x = 0 ∨ x = 1) (kk : Wp Y k Q b (pc + 3) ls st n (up h c kf x)) : Wp Y k Q b pc ls (zI x :: zR c :: st) n h := by
  intro p l e R s m args below meth cd A D tc ad H locs cells slots ls' C hH hB hl
  have C0 := C
  obtain ⟨⟨hx, hb, hml, hr, hlk⟩, hown, hts, hK, hA, hR, hst, hE, hin, hexc, hlaw⟩ := C0
  obtain ⟨C1, T1, ty1, ⟨hcl, hinT, hty, hnm, hlen, hlt, htk⟩, hk, hft, hw⟩ := hf
  have hg := zw_get (md := k.md) (ad := ad) (tc := tc) (h := h) hc
  rw [zc_obj hlt] at hg
  have tk := htk kf hk
  rw [hft] at tk
  simp only [tkb, Bool.and_eq_true, decide_eq_true_eq, Bool.not_eq_true'] at tk
  obtain ⟨tk1, hfi⟩ := tk
  have hna : narrow (ty1 kf) (.int (Int32.ofInt x)) = .int (Int32.ofInt x) := by rw [tk1]; rcases hv with rfl | rfl <;> decide
  have hfit : fits (ty1 kf) (.int (Int32.ofInt x)) = true := by rw [tk1]; rcases hv with rfl | rfl <;> decide
  have ev : zf k.md ad (up h c kf x) c kf (1, off) = .int (Int32.ofInt x) := by simp [zf, up_ci]
  have hl0 : kf < (zfs k.md ad h c (FT.getD ci [])).length := by unfold zfs; rw [List.length_mapIdx, hlen]; exact hk
  have ew : (zw k.md ad tc n h).set (c - 1).toNat (ad c, .inr (ci, (zfs k.md ad h c (FT.getD ci [])).set kf (.int (Int32.ofInt x)))) = zw k.md ad tc n (up h c kf x) :=
    zw_set hc (by rw [zc_obj hlt, zfs_set hft ev]) (fun c' z => up_n z)
  rw [List.map_cons, List.map_cons, zv_ref (c := c) (by have := hc.1; omega)]
  have rr : zv ad (zI x) = .int (Int32.ofInt x) := rfl
  rw [rr]
  refine va_put hx hb hts hinT ty1 hty hnm hown hK hH.1 hH.2.1 hH.2.2 _ hg hcl kf hk (hts _ hw) (fun _ z => z) hfi (hty kf hk) hna hfit hl0 hd (fun H1 locs1 hP1 hD1 hS1 => ?_)
  rw [ew] at hP1 hD1
  exact kk p l e R s m args below meth cd A D tc ad H1 locs1 cells slots ls' C ⟨hP1, hD1, hS1⟩ hB hl

theorem s_putL {idx ci N kf : Nat} {off c x : Int} (hd : decode Y.cd pc = .ok (.putfield idx, 3)) (hf : Fk Y.own idx ci N kf 2 off) (hc : cel n c (ci, N))  (kk : Wp Y k Q b (pc + 3) ls st n (up h c kf x)) : Wp Y k Q b pc ls (zL x :: zR c :: st) n h := by
  intro p l e R s m args below meth cd A D tc ad H locs cells slots ls' C hH hB hl
  have C0 := C
  obtain ⟨⟨hx, hb, hml, hr, hlk⟩, hown, hts, hK, hA, hR, hst, hE, hin, hexc, hlaw⟩ := C0
  obtain ⟨C1, T1, ty1, ⟨hcl, hinT, hty, hnm, hlen, hlt, htk⟩, hk, hft, hw⟩ := hf
  have hg := zw_get (md := k.md) (ad := ad) (tc := tc) (h := h) hc
  rw [zc_obj hlt] at hg
  have tk := htk kf hk
  rw [hft] at tk
  simp only [tkb, Bool.and_eq_true, decide_eq_true_eq, Bool.not_eq_true'] at tk
  obtain ⟨tk1, hfi⟩ := tk
  have hna : narrow (ty1 kf) (.long (Int64.ofInt x)) = .long (Int64.ofInt x) := by rw [tk1]; rfl
  have hfit : fits (ty1 kf) (.long (Int64.ofInt x)) = true := by rw [tk1]; rfl
  have ev : zf k.md ad (up h c kf x) c kf (2, off) = .long (Int64.ofInt x) := by simp [zf, up_ci]
  have hl0 : kf < (zfs k.md ad h c (FT.getD ci [])).length := by unfold zfs; rw [List.length_mapIdx, hlen]; exact hk
  have ew : (zw k.md ad tc n h).set (c - 1).toNat (ad c, .inr (ci, (zfs k.md ad h c (FT.getD ci [])).set kf (.long (Int64.ofInt x)))) = zw k.md ad tc n (up h c kf x) :=
    zw_set hc (by rw [zc_obj hlt, zfs_set hft ev]) (fun c' z => up_n z)
  rw [List.map_cons, List.map_cons, zv_ref (c := c) (by have := hc.1; omega)]
  have rr : zv ad (zL x) = .long (Int64.ofInt x) := rfl
  rw [rr]
  refine va_put hx hb hts hinT ty1 hty hnm hown hK hH.1 hH.2.1 hH.2.2 _ hg hcl kf hk (hts _ hw) (fun _ z => z) hfi (hty kf hk) hna hfit hl0 hd (fun H1 locs1 hP1 hD1 hS1 => ?_)
  rw [ew] at hP1 hD1
  exact kk p l e R s m args below meth cd A D tc ad H1 locs1 cells slots ls' C ⟨hP1, hD1, hS1⟩ hB hl

theorem s_putR {idx ci N kf : Nat} {off c x : Int} (hd : decode Y.cd pc = .ok (.putfield idx, 3)) (hf : Fk Y.own idx ci N kf 3 off) (hc : cel n c (ci, N))  (kk : Wp Y k Q b (pc + 3) ls st n (up h c kf x)) : Wp Y k Q b pc ls (zR x :: zR c :: st) n h := by
  intro p l e R s m args below meth cd A D tc ad H locs cells slots ls' C hH hB hl
  have C0 := C
  obtain ⟨⟨hx, hb, hml, hr, hlk⟩, hown, hts, hK, hA, hR, hst, hE, hin, hexc, hlaw⟩ := C0
  obtain ⟨C1, T1, ty1, ⟨hcl, hinT, hty, hnm, hlen, hlt, htk⟩, hk, hft, hw⟩ := hf
  have hg := zw_get (md := k.md) (ad := ad) (tc := tc) (h := h) hc
  rw [zc_obj hlt] at hg
  have tk := htk kf hk
  rw [hft] at tk
  simp only [tkb, Bool.and_eq_true, Bool.not_eq_true'] at tk
  obtain ⟨tk1, hfi⟩ := tk
  have hv9 : zv ad (zR x) = .null ∨ ∃ a, zv ad (zR x) = .ref a := by
    by_cases e : x = 0
    · exact Or.inl (by simp [zv, zR, e])
    · exact Or.inr ⟨_, zv_ref e⟩
  have hna : narrow (ty1 kf) (zv ad (zR x)) = zv ad (zR x) := by
    rcases hv9 with e | ⟨a, e⟩ <;> rw [e] <;> cases hty9 : ty1 kf <;> first | rfl | (rw [hty9] at tk1; cases tk1)
  have hfit : fits (ty1 kf) (zv ad (zR x)) = true := by
    rcases hv9 with e | ⟨a, e⟩ <;> rw [e] <;> cases hty9 : ty1 kf <;> first | rfl | (rw [hty9] at tk1; cases tk1)
  have ev : zf k.md ad (up h c kf x) c kf (3, off) = zv ad (zR x) := by simp [zf, up_ci]
  have hl0 : kf < (zfs k.md ad h c (FT.getD ci [])).length := by unfold zfs; rw [List.length_mapIdx, hlen]; exact hk
  have ew : (zw k.md ad tc n h).set (c - 1).toNat (ad c, .inr (ci, (zfs k.md ad h c (FT.getD ci [])).set kf (zv ad (zR x)))) = zw k.md ad tc n (up h c kf x) :=
    zw_set hc (by rw [zc_obj hlt, zfs_set hft ev]) (fun c' z => up_n z)
  rw [List.map_cons, List.map_cons, zv_ref (c := c) (by have := hc.1; omega)]
  have rr : zv ad (zR x) = zv ad (zR x) := rfl
  rw [rr]
  refine va_put hx hb hts hinT ty1 hty hnm hown hK hH.1 hH.2.1 hH.2.2 _ hg hcl kf hk (hts _ hw) (fun _ z => z) hfi (hty kf hk) hna hfit hl0 hd (fun H1 locs1 hP1 hD1 hS1 => ?_)
  rw [ew] at hP1 hD1
  exact kk p l e R s m args below meth cd A D tc ad H1 locs1 cells slots ls' C ⟨hP1, hD1, hS1⟩ hB hl

theorem s_putF {idx ci N kf : Nat} {off c x : Int} (hd : decode Y.cd pc = .ok (.putfield idx, 3)) (hf : Fk Y.own idx ci N kf 4 off) (hc : cel n c (ci, N))  (hini : Y.ini = true) (hxo : x = c + off) (hx0 : x ≠ 0) (hdc : ∀ T : u_T, ∀ C : String, ∀ N : Nat, vwCl[ci]? = some (C, T, N) → (T kf).1 = Y.own) (kk : Wp Y k Q b (pc + 3) ls st n (up h c kf 1)) : Wp Y k Q b pc ls (zR x :: zR c :: st) n h := by
  intro p l e R s m args below meth cd A D tc ad H locs cells slots ls' C hH hB hl
  have C0 := C
  obtain ⟨⟨hx, hb, hml, hr, hlk⟩, hown, hts, hK, hA, hR, hst, hE, hin, hexc, hlaw⟩ := C0
  obtain ⟨C1, T1, ty1, ⟨hcl, hinT, hty, hnm, hlen, hlt, htk⟩, hk, hft, hw⟩ := hf
  have hg := zw_get (md := k.md) (ad := ad) (tc := tc) (h := h) hc
  rw [zc_obj hlt] at hg
  have tk := htk kf hk
  rw [hft] at tk
  simp only [tkb, Bool.and_eq_true] at tk
  obtain ⟨tk1, hfi⟩ := tk
  have hdecl := hdc _ _ _ hcl
  have hv9 : zv ad (zR x) = .null ∨ ∃ a, zv ad (zR x) = .ref a := by
    by_cases e : x = 0
    · exact Or.inl (by simp [zv, zR, e])
    · exact Or.inr ⟨_, zv_ref e⟩
  have hna : narrow (ty1 kf) (zv ad (zR x)) = zv ad (zR x) := by
    rcases hv9 with e | ⟨a, e⟩ <;> rw [e] <;> cases hty9 : ty1 kf <;> first | rfl | (rw [hty9] at tk1; cases tk1)
  have hfit : fits (ty1 kf) (zv ad (zR x)) = true := by
    rcases hv9 with e | ⟨a, e⟩ <;> rw [e] <;> cases hty9 : ty1 kf <;> first | rfl | (rw [hty9] at tk1; cases tk1)
  have ev : zf k.md ad (up h c kf 1) c kf (4, off) = zv ad (zR x) := by rw [zv_ref hx0, hxo]; simp [zf, up_ci]
  have hl0 : kf < (zfs k.md ad h c (FT.getD ci [])).length := by unfold zfs; rw [List.length_mapIdx, hlen]; exact hk
  have ew : (zw k.md ad tc n h).set (c - 1).toNat (ad c, .inr (ci, (zfs k.md ad h c (FT.getD ci [])).set kf (zv ad (zR x)))) = zw k.md ad tc n (up h c kf 1) :=
    zw_set hc (by rw [zc_obj hlt, zfs_set hft ev]) (fun c' z => up_n z)
  rw [List.map_cons, List.map_cons, zv_ref (c := c) (by have := hc.1; omega)]
  have rr : zv ad (zR x) = zv ad (zR x) := rfl
  rw [rr]
  refine va_putF hx hb hts hinT ty1 hty hnm hown hK hH.1 hH.2.1 hH.2.2 _ hg hcl kf hk (hts _ hw) (fun _ z => z) hfi (hin hini) hdecl (hty kf hk) hna hfit hl0 hd (fun H1 locs1 hP1 hD1 hS1 => ?_)
  rw [ew] at hP1 hD1
  exact kk p l e R s m args below meth cd A D tc ad H1 locs1 cells slots ls' C ⟨hP1, hD1, hS1⟩ hB hl

theorem lay_small : ∀ K ∈ LAY, K.2 < 4000 := by decide +kernel
theorem cel_small {n : Nat} {c : Int} {K : Nat × Nat} (h : cel n c K) : K.2 < 4000 := lay_small K (List.mem_of_getElem? h.2.2)
theorem ixi {i : Int} (h0 : 0 ≤ i) (h1 : i < 2147483648) : (Int32.ofInt i).toNatClampNeg = i.toNat := by
  show (Int32.ofInt i).toInt.toNat = i.toNat
  rw [toInt32 ⟨by omega, h1⟩]
theorem ixin {i : Int} {N : Nat} (h0 : 0 ≤ i) (h1 : i < N) (hN : N < 4000) : vp_in (Int32.ofInt i) N := by
  rw [vp_in_iff, toInt32 ⟨by omega, by omega⟩]
  exact ⟨h0, h1⟩
theorem zc_int {md : Bool} {ad : Int → Nat} {tc : Nat → ClassId} {h : AH} {c : Int} {N : Nat} : zc md ad tc h c (100, N) = .inl (tc 0, N, .inl (fun i => Int32.ofInt (h c i))) := by simp [zc]
theorem zc_byte {md : Bool} {ad : Int → Nat} {tc : Nat → ClassId} {h : AH} {c : Int} {N : Nat} : zc md ad tc h c (101, N) = .inl (tc 1, N, .inl (fun i => Int32.ofInt (h c i))) := by simp [zc]
theorem zc_bool {md : Bool} {ad : Int → Nat} {tc : Nat → ClassId} {h : AH} {c : Int} {N : Nat} : zc md ad tc h c (102, N) = .inl (tc 2, N, .inl (fun i => Int32.ofInt (h c i))) := by simp [zc]
theorem zc_long {md : Bool} {ad : Int → Nat} {tc : Nat → ClassId} {h : AH} {c : Int} {N : Nat} : zc md ad tc h c (103, N) = .inl (tc 3, N, .inr (.inl (fun i => Int64.ofInt (h c i)))) := by simp [zc]
theorem upd_up {h : AH} {c i x : Int} (h0 : 0 ≤ i) : upd (fun j : Nat => Int32.ofInt (h c j)) i.toNat (Int32.ofInt x) = fun j : Nat => Int32.ofInt (up h c i x c j) := by
  funext j
  rw [up_c]
  unfold upd
  by_cases e : j = i.toNat
  · rw [if_pos e]; dsimp only; rw [if_pos (by omega)]
  · rw [if_neg e]; dsimp only; rw [if_neg (by omega)]
theorem updL_up {h : AH} {c i x : Int} (h0 : 0 ≤ i) : vp_updL (fun j : Nat => Int64.ofInt (h c j)) i.toNat (Int64.ofInt x) = fun j : Nat => Int64.ofInt (up h c i x c j) := by
  funext j
  rw [up_c]
  unfold vp_updL
  by_cases e : j = i.toNat
  · rw [if_pos e]; dsimp only; rw [if_pos (by omega)]
  · rw [if_neg e]; dsimp only; rw [if_neg (by omega)]

theorem s_iald {N : Nat} {c i : Int} (hd : decode Y.cd pc = .ok (.iaload, 1)) (hc : cel n c (100, N)) (i0 : 0 ≤ i) (i1 : i < N) (kk : Wp Y k Q b (pc + 1) ls (zI (h c i) :: st) n h) : Wp Y k Q b pc ls (zI i :: zR c :: st) n h := by
  intro p l e R s m args below meth cd A D tc ad H locs cells slots ls' C hH hB hl
  have C0 := C
  obtain ⟨⟨hx, hb, hml, hr, hlk⟩, hown, hts, hK, hA, hR, hst, hE, hin, hexc, hlaw⟩ := C0
  have hN := cel_small hc
  have hg := zw_get (md := k.md) (ad := ad) (tc := tc) (h := h) hc
  rw [zc_int] at hg
  have q := kk p l e R s m args below meth cd A D tc ad H locs cells slots ls' C hH hB hl
  rw [List.map_cons, List.map_cons, zv_ref (c := c) (by have := hc.1; omega)]
  refine va_iald hx hb hK hH.1 _ 0 hg rfl (ixin i0 i1 hN) hd ?_
  rw [ixi i0 (by have : N < 4000 := hN; omega)]
  have e9 : ((i.toNat : Nat) : Int) = i := by omega
  rw [e9]
  exact q

theorem s_bald {N : Nat} {c i : Int} (hd : decode Y.cd pc = .ok (.baload, 1)) (hc : cel n c (101, N)) (i0 : 0 ≤ i) (i1 : i < N) (kk : Wp Y k Q b (pc + 1) ls (zI (h c i) :: st) n h) : Wp Y k Q b pc ls (zI i :: zR c :: st) n h := by
  intro p l e R s m args below meth cd A D tc ad H locs cells slots ls' C hH hB hl
  have C0 := C
  obtain ⟨⟨hx, hb, hml, hr, hlk⟩, hown, hts, hK, hA, hR, hst, hE, hin, hexc, hlaw⟩ := C0
  have hN := cel_small hc
  have hg := zw_get (md := k.md) (ad := ad) (tc := tc) (h := h) hc
  rw [zc_byte] at hg
  have q := kk p l e R s m args below meth cd A D tc ad H locs cells slots ls' C hH hB hl
  rw [List.map_cons, List.map_cons, zv_ref (c := c) (by have := hc.1; omega)]
  refine va_bald hx hb hK hH.1 _ 1 hg rfl (ixin i0 i1 hN) hd ?_
  rw [ixi i0 (by have : N < 4000 := hN; omega)]
  have e9 : ((i.toNat : Nat) : Int) = i := by omega
  rw [e9]
  exact q

theorem s_zald {N : Nat} {c i : Int} (hd : decode Y.cd pc = .ok (.baload, 1)) (hc : cel n c (102, N)) (i0 : 0 ≤ i) (i1 : i < N) (kk : Wp Y k Q b (pc + 1) ls (zI (h c i) :: st) n h) : Wp Y k Q b pc ls (zI i :: zR c :: st) n h := by
  intro p l e R s m args below meth cd A D tc ad H locs cells slots ls' C hH hB hl
  have C0 := C
  obtain ⟨⟨hx, hb, hml, hr, hlk⟩, hown, hts, hK, hA, hR, hst, hE, hin, hexc, hlaw⟩ := C0
  have hN := cel_small hc
  have hg := zw_get (md := k.md) (ad := ad) (tc := tc) (h := h) hc
  rw [zc_bool] at hg
  have q := kk p l e R s m args below meth cd A D tc ad H locs cells slots ls' C hH hB hl
  rw [List.map_cons, List.map_cons, zv_ref (c := c) (by have := hc.1; omega)]
  refine va_zald hx hb hK hH.1 _ 2 hg rfl (ixin i0 i1 hN) hd ?_
  rw [ixi i0 (by have : N < 4000 := hN; omega)]
  have e9 : ((i.toNat : Nat) : Int) = i := by omega
  rw [e9]
  exact q

theorem s_lald {N : Nat} {c i : Int} (hd : decode Y.cd pc = .ok (.laload, 1)) (hc : cel n c (103, N)) (i0 : 0 ≤ i) (i1 : i < N) (kk : Wp Y k Q b (pc + 1) ls (zL (h c i) :: st) n h) : Wp Y k Q b pc ls (zI i :: zR c :: st) n h := by
  intro p l e R s m args below meth cd A D tc ad H locs cells slots ls' C hH hB hl
  have C0 := C
  obtain ⟨⟨hx, hb, hml, hr, hlk⟩, hown, hts, hK, hA, hR, hst, hE, hin, hexc, hlaw⟩ := C0
  have hN := cel_small hc
  have hg := zw_get (md := k.md) (ad := ad) (tc := tc) (h := h) hc
  rw [zc_long] at hg
  have q := kk p l e R s m args below meth cd A D tc ad H locs cells slots ls' C hH hB hl
  rw [List.map_cons, List.map_cons, zv_ref (c := c) (by have := hc.1; omega)]
  refine va_lald hx hb hK hH.1 _ 3 hg rfl (ixin i0 i1 hN) hd ?_
  rw [ixi i0 (by have : N < 4000 := hN; omega)]
  have e9 : ((i.toNat : Nat) : Int) = i := by omega
  rw [e9]
  exact q

theorem s_iast {N : Nat} {c i x : Int} (hd : decode Y.cd pc = .ok (.iastore, 1)) (hc : cel n c (100, N)) (i0 : 0 ≤ i) (i1 : i < N)  (kk : Wp Y k Q b (pc + 1) ls st n (up h c i x)) : Wp Y k Q b pc ls (zI x :: zI i :: zR c :: st) n h := by
  intro p l e R s m args below meth cd A D tc ad H locs cells slots ls' C hH hB hl
  have C0 := C
  obtain ⟨⟨hx, hb, hml, hr, hlk⟩, hown, hts, hK, hA, hR, hst, hE, hin, hexc, hlaw⟩ := C0
  have hN : N < 4000 := cel_small hc
  have hg := zw_get (md := k.md) (ad := ad) (tc := tc) (h := h) hc
  rw [zc_int] at hg
  rw [List.map_cons, List.map_cons, List.map_cons, zv_ref (c := c) (by have := hc.1; omega)]
  refine va_iast hx hb hK hH.1 hH.2.1 hH.2.2 _ 0 hg rfl (ixin i0 i1 hN) hd (fun H1 locs1 hP1 hD1 hS1 => ?_)
  rw [ixi i0 (by omega), upd_up i0, zw_set (K := (100, N)) (h2 := up h c i x) hc zc_int (fun c' z => up_n z)] at hP1 hD1
  exact kk p l e R s m args below meth cd A D tc ad H1 locs1 cells slots ls' C ⟨hP1, hD1, hS1⟩ hB hl

theorem s_bast {N : Nat} {c i x : Int} (hd : decode Y.cd pc = .ok (.bastore, 1)) (hc : cel n c (101, N)) (i0 : 0 ≤ i) (i1 : i < N) (hv : (Int32.ofInt x).toInt8.toInt32 = Int32.ofInt x) (kk : Wp Y k Q b (pc + 1) ls st n (up h c i x)) : Wp Y k Q b pc ls (zI x :: zI i :: zR c :: st) n h := by
  intro p l e R s m args below meth cd A D tc ad H locs cells slots ls' C hH hB hl
  have C0 := C
  obtain ⟨⟨hx, hb, hml, hr, hlk⟩, hown, hts, hK, hA, hR, hst, hE, hin, hexc, hlaw⟩ := C0
  have hN : N < 4000 := cel_small hc
  have hg := zw_get (md := k.md) (ad := ad) (tc := tc) (h := h) hc
  rw [zc_byte] at hg
  rw [List.map_cons, List.map_cons, List.map_cons, zv_ref (c := c) (by have := hc.1; omega)]
  refine va_bast hx hb hK hH.1 hH.2.1 hH.2.2 _ 1 hg rfl (ixin i0 i1 hN) hd (fun H1 locs1 hP1 hD1 hS1 => ?_)
  rw [ixi i0 (by omega), vp_nar_byte, hv, upd_up i0, zw_set (K := (101, N)) (h2 := up h c i x) hc zc_byte (fun c' z => up_n z)] at hP1 hD1
  exact kk p l e R s m args below meth cd A D tc ad H1 locs1 cells slots ls' C ⟨hP1, hD1, hS1⟩ hB hl

theorem s_zast {N : Nat} {c i x : Int} (hd : decode Y.cd pc = .ok (.bastore, 1)) (hc : cel n c (102, N)) (i0 : 0 ≤ i) (i1 : i < N) (hv : vp_nar .boolean (Int32.ofInt x) = Int32.ofInt x) (kk : Wp Y k Q b (pc + 1) ls st n (up h c i x)) : Wp Y k Q b pc ls (zI x :: zI i :: zR c :: st) n h := by
  intro p l e R s m args below meth cd A D tc ad H locs cells slots ls' C hH hB hl
  have C0 := C
  obtain ⟨⟨hx, hb, hml, hr, hlk⟩, hown, hts, hK, hA, hR, hst, hE, hin, hexc, hlaw⟩ := C0
  have hN : N < 4000 := cel_small hc
  have hg := zw_get (md := k.md) (ad := ad) (tc := tc) (h := h) hc
  rw [zc_bool] at hg
  rw [List.map_cons, List.map_cons, List.map_cons, zv_ref (c := c) (by have := hc.1; omega)]
  refine va_zast hx hb hK hH.1 hH.2.1 hH.2.2 _ 2 hg rfl (ixin i0 i1 hN) hd (fun H1 locs1 hP1 hD1 hS1 => ?_)
  rw [ixi i0 (by omega), hv, upd_up i0, zw_set (K := (102, N)) (h2 := up h c i x) hc zc_bool (fun c' z => up_n z)] at hP1 hD1
  exact kk p l e R s m args below meth cd A D tc ad H1 locs1 cells slots ls' C ⟨hP1, hD1, hS1⟩ hB hl

theorem s_last {N : Nat} {c i x : Int} (hd : decode Y.cd pc = .ok (.lastore, 1)) (hc : cel n c (103, N)) (i0 : 0 ≤ i) (i1 : i < N)  (kk : Wp Y k Q b (pc + 1) ls st n (up h c i x)) : Wp Y k Q b pc ls (zL x :: zI i :: zR c :: st) n h := by
  intro p l e R s m args below meth cd A D tc ad H locs cells slots ls' C hH hB hl
  have C0 := C
  obtain ⟨⟨hx, hb, hml, hr, hlk⟩, hown, hts, hK, hA, hR, hst, hE, hin, hexc, hlaw⟩ := C0
  have hN : N < 4000 := cel_small hc
  have hg := zw_get (md := k.md) (ad := ad) (tc := tc) (h := h) hc
  rw [zc_long] at hg
  rw [List.map_cons, List.map_cons, List.map_cons, zv_ref (c := c) (by have := hc.1; omega)]
  refine va_last hx hb hK hH.1 hH.2.1 hH.2.2 _ 3 hg rfl (ixin i0 i1 hN) hd (fun H1 locs1 hP1 hD1 hS1 => ?_)
  rw [ixi i0 (by omega), updL_up i0, zw_set (K := (103, N)) (h2 := up h c i x) hc zc_long (fun c' z => up_n z)] at hP1 hD1
  exact kk p l e R s m args below meth cd A D tc ad H1 locs1 cells slots ls' C ⟨hP1, hD1, hS1⟩ hB hl

theorem s_alen {K N : Nat} {c : Int} (hd : decode Y.cd pc = .ok (.arraylength, 1)) (hc : cel n c (K, N)) (hk : K = 100 ∨ K = 101) (kk : Wp Y k Q b (pc + 1) ls (zI N :: st) n h) : Wp Y k Q b pc ls (zR c :: st) n h := by
  intro p l e R s m args below meth cd A D tc ad H locs cells slots ls' C hH hB hl
  have C0 := C
  obtain ⟨⟨hx, hb, hml, hr, hlk⟩, hown, hts, hK, hA, hR, hst, hE, hin, hexc, hlaw⟩ := C0
  have hN : N < 4000 := cel_small hc
  have hg := zw_get (md := k.md) (ad := ad) (tc := tc) (h := h) hc
  have q := kk p l e R s m args below meth cd A D tc ad H locs cells slots ls' C hH hB hl
  rw [List.map_cons, zv_ref (c := c) (by have := hc.1; omega)]
  have e9 : Int32.ofNat N = Int32.ofInt N := rfl
  rcases hk with rfl | rfl
  · rw [zc_int] at hg
    exact va_alen hx hb hK hH.1 _ 0 hg rfl e9 hd q
  · rw [zc_byte] at hg
    exact va_alen hx hb hK hH.1 _ 1 hg rfl e9 hd q
def cpy (h : AH) (a sp b dp len : Int) : AH := fun c' => if c' = b then (fun i => if dp ≤ i ∧ i < dp + len then h a (sp + (i - dp)) else h b i) else h c'
theorem va_cpy_cpy {h : AH} {a sp b dp len : Int} (s0 : 0 ≤ sp) (d0 : 0 ≤ dp) (l0 : 0 ≤ len) : va_cpy (fun j : Nat => Int32.ofInt (h a j)) (fun j : Nat => Int32.ofInt (h b j)) sp.toNat dp.toNat len.toNat = fun j : Nat => Int32.ofInt (cpy h a sp b dp len b j) := by
  funext j
  unfold va_cpy cpy
  rw [if_pos rfl]
  by_cases e : dp.toNat ≤ j ∧ j < dp.toNat + len.toNat
  · rw [if_pos e, if_pos (by omega)]
    have e9 : ((sp.toNat + (j - dp.toNat) : Nat) : Int) = sp + ((j : Int) - dp) := by omega
    dsimp only
    rw [e9]
  · rw [if_neg e, if_neg (by omega)]
theorem s_copy {N M idx : Nat} {a sp c dp len : Int} (hd : decode Y.cd pc = .ok (.invokestatic idx, 3)) (hw : Cond.methodLink Y.own idx arraycopyName ∈ GW) (hw2 : Cond.native arraycopyName ∈ GW) (hw3 : Cond.static arraycopyName ∈ GW) (hw4 : Cond.initialized "java/lang/System" ∈ GW) (hfr : 1 ≤ k.fr) (hst0 : (st.map zcat).sum ≤ 8) (ha : cel n a (100, N)) (hc : cel n c (100, M)) (s0 : 0 ≤ sp) (s1 : sp + len ≤ N) (d0 : 0 ≤ dp) (d1 : dp + len ≤ M) (l0 : 0 ≤ len) (kk : Wp Y k Q b (pc + 3) ls st n (cpy h a sp c dp len)) : Wp Y k Q b pc ls (zI len :: zI dp :: zR c :: zI sp :: zR a :: st) n h := by
  intro p l e R s m args below meth cd A D tc ad H locs cells slots ls' C hH hB hl
  have C0 := C
  obtain ⟨⟨hx, hb, hml, hr, hlk⟩, hown, hts, hK, hA, hR, hst, hE, hin, hexc, hlaw⟩ := C0
  have hN : N < 4000 := cel_small ha
  have hM : M < 4000 := cel_small hc
  have hga := zw_get (md := k.md) (ad := ad) (tc := tc) (h := h) ha
  have hgc := zw_get (md := k.md) (ad := ad) (tc := tc) (h := h) hc
  rw [zc_int] at hga hgc
  rw [List.map_cons, List.map_cons, List.map_cons, List.map_cons, List.map_cons, zv_ref (c := c) (by have := hc.1; omega), zv_ref (c := a) (by have := ha.1; omega)]
  have nn : ∀ z : Int, 0 ≤ z → z < 2147483648 → ¬ Int32.ofInt z < 0 := fun z h0 h1 q => by
    have := (i32lt (x := z) (y := 0) ⟨by omega, h1⟩ R32_0).mp q
    omega
  refine va_copyi hx hb (hml.trans hl.1.symm) hown (hts _ hw) (hts _ hw2) (hts _ hw3) (hts _ hw4) hK hH.1 hH.2.1 hH.2.2 _ _ 0 0 (ty := .int) hga hgc rfl rfl rfl (nn sp s0 (by omega)) (nn dp d0 (by omega)) (nn len l0 (by omega)) (by rw [ixi s0 (by omega), ixi l0 (by omega)]; omega) (by rw [ixi d0 (by omega), ixi l0 (by omega)]; omega) (fun i hi => rfl) (by have := hR.1; omega) ?_ hd (fun H1 locs1 hP1 hD1 hS1 => ?_)
  · rw [zv_cats]
    have e9 : nativeFrameWords "java/lang/System" "arraycopy" 5 + 11 ≤ 52 := by decide +kernel
    have := hR.2.1
    have : 60 * 1 ≤ 60 * k.fr := Nat.mul_le_mul_left 60 hfr
    omega
  rw [ixi s0 (by omega), ixi d0 (by omega), ixi l0 (by omega), va_cpy_cpy s0 d0 l0, zw_set (K := (100, M)) (h2 := cpy h a sp c dp len) hc zc_int (fun c' z => by unfold cpy; rw [if_neg z])] at hP1 hD1
  exact kk p l e R s m args below meth cd A D tc ad H1 locs1 cells slots ls' C ⟨hP1, hD1, hS1⟩ hB hl

theorem s_sld {i : Int} (hlw : Y.law = true) (hd : decode Y.cd pc = .ok (.iaload, 1)) (i0 : 0 ≤ i) (i1 : i < k.L) (hL : k.L < 4000) (kk : Wp Y k Q b (pc + 1) ls (zI (k.xs i.toNat) :: st) n h) : Wp Y k Q b pc ls (zI i :: zR (-100) :: st) n h := by
  intro p l e R s m args below meth cd A D tc ad H locs cells slots ls' C hH hB hl
  have C0 := C
  obtain ⟨⟨hx, hb, hml, hr, hlk⟩, hown, hts, hK, hA, hR, hst, hE, hin, hexc, hlaw⟩ := C0
  obtain ⟨-, g1, g2, g3, g4, g5, -⟩ := hlaw hlw
  have q := kk p l e R s m args below meth cd A D tc ad H locs cells slots ls' C hH hB hl
  rw [List.map_cons, List.map_cons, zv_ref (c := -100) (by decide)]
  refine va_sld hx hb g3 g4 g5 hH.2.2 (ixin i0 i1 hL) hd ?_
  rw [ixi i0 (by omega)]
  exact q
theorem s_slen (hlw : Y.law = true) (hd : decode Y.cd pc = .ok (.arraylength, 1)) (kk : Wp Y k Q b (pc + 1) ls (zI k.L :: st) n h) : Wp Y k Q b pc ls (zR (-100) :: st) n h := by
  intro p l e R s m args below meth cd A D tc ad H locs cells slots ls' C hH hB hl
  have C0 := C
  obtain ⟨⟨hx, hb, hml, hr, hlk⟩, hown, hts, hK, hA, hR, hst, hE, hin, hexc, hlaw⟩ := C0
  obtain ⟨-, g1, g2, g3, g4, g5, -⟩ := hlaw hlw
  have q := kk p l e R s m args below meth cd A D tc ad H locs cells slots ls' C hH hB hl
  rw [List.map_cons, zv_ref (c := -100) (by decide)]
  exact va_slen hx hb g3 g4 g5 hH.2.2 hd q
end RulesC
