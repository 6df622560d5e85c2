/-! ===== rules of Wp, an instruction each ===== -/
def R32 (x : Int) : Prop := -2147483648 ≤ x ∧ x < 2147483648
theorem toInt32 {x : Int} (h : R32 x) : (Int32.ofInt x).toInt = x := by
  obtain ⟨h1, h2⟩ := h
  rw [Int32.toInt_ofInt]
  unfold Int.bmod
  simp only [Int32.size] 
  omega
theorem i32le {x y : Int} (hx : R32 x) (hy : R32 y) : Int32.ofInt x ≤ Int32.ofInt y ↔ x ≤ y := by rw [Int32.le_iff_toInt_le, toInt32 hx, toInt32 hy]
theorem i32lt {x y : Int} (hx : R32 x) (hy : R32 y) : Int32.ofInt x < Int32.ofInt y ↔ x < y := by rw [Int32.lt_iff_toInt_lt, toInt32 hx, toInt32 hy]
theorem i32eq {x y : Int} (hx : R32 x) (hy : R32 y) : Int32.ofInt x = Int32.ofInt y ↔ x = y := by
  constructor
  · intro e
    have := congrArg Int32.toInt e
    rwa [toInt32 hx, toInt32 hy] at this
  · intro e; rw [e]
theorem R32_0 : R32 0 := by constructor <;> decide
theorem i32z {x : Int} (hx : R32 x) : Int32.ofInt x = 0 ↔ x = 0 := i32eq hx R32_0
section RulesA
variable {Y : YD} {k : KD} {Q : RS → Nat → AH → Prop} {b : Nat × Nat} {pc : Nat} {ls st : List AV} {n : Nat} {h : AH}

theorem s_iconst {v : Int} (hd : decode Y.cd pc = .ok (.iconst v, 1)) (kk : Wp Y k Q b (pc + 1) ls (zI v :: st) n h) : Wp Y k Q b pc ls st n h := by
  intro p l e R s m args below meth c A D tc ad H locs cells slots ls' C hH hB hl
  have C0 := C
  obtain ⟨⟨hx, hb, hml, hr, hlk⟩, hown, hts, hK, hA, hR, hst, hE, hin, hexc, hlaw⟩ := C0
  exact lv_iconst hx hb hd rfl (kk p l e R s m args below meth c A D tc ad H locs cells slots ls' C hH hB hl)

theorem s_bipush {v : Int} (hd : decode Y.cd pc = .ok (.bipush v, 2)) (hv : (Int8.ofInt v).toInt32 = Int32.ofInt v) (kk : Wp Y k Q b (pc + 2) ls (zI v :: st) n h) : Wp Y k Q b pc ls st n h := by
  intro p l e R s m args below meth c A D tc ad H locs cells slots ls' C hH hB hl
  have C0 := C
  obtain ⟨⟨hx, hb, hml, hr, hlk⟩, hown, hts, hK, hA, hR, hst, hE, hin, hexc, hlaw⟩ := C0
  exact lv_bipush hx hb hd hv (kk p l e R s m args below meth c A D tc ad H locs cells slots ls' C hH hB hl)

theorem s_sipush {v : Int} (hd : decode Y.cd pc = .ok (.sipush v, 3)) (hv : (Int16.ofInt v).toInt32 = Int32.ofInt v) (kk : Wp Y k Q b (pc + 3) ls (zI v :: st) n h) : Wp Y k Q b pc ls st n h := by
  intro p l e R s m args below meth c A D tc ad H locs cells slots ls' C hH hB hl
  have C0 := C
  obtain ⟨⟨hx, hb, hml, hr, hlk⟩, hown, hts, hK, hA, hR, hst, hE, hin, hexc, hlaw⟩ := C0
  exact lv_sipush hx hb hd hv (kk p l e R s m args below meth c A D tc ad H locs cells slots ls' C hH hB hl)

theorem s_lconst {f : Fin 2} {v : Int} (hd : decode Y.cd pc = .ok (.lconst f, 1)) (hv : Int64.ofNat (f : Nat) = Int64.ofInt v) (kk : Wp Y k Q b (pc + 1) ls (zL v :: st) n h) : Wp Y k Q b pc ls st n h := by
  intro p l e R s m args below meth c A D tc ad H locs cells slots ls' C hH hB hl
  have C0 := C
  obtain ⟨⟨hx, hb, hml, hr, hlk⟩, hown, hts, hK, hA, hR, hst, hE, hin, hexc, hlaw⟩ := C0
  exact lv_lconst hx hb hd hv (kk p l e R s m args below meth c A D tc ad H locs cells slots ls' C hH hB hl)

theorem s_ldc {i : Nat} {v : Int} (hd : decode Y.cd pc = .ok (.ldc i, 2)) (hw : Cond.constant Y.own i (Int32.ofInt v) ∈ GW) (kk : Wp Y k Q b (pc + 2) ls (zI v :: st) n h) : Wp Y k Q b pc ls st n h := by
  intro p l e R s m args below meth c A D tc ad H locs cells slots ls' C hH hB hl
  have C0 := C
  obtain ⟨⟨hx, hb, hml, hr, hlk⟩, hown, hts, hK, hA, hR, hst, hE, hin, hexc, hlaw⟩ := C0
  exact lv_ldc hx hb hown (hts _ hw) hd (kk p l e R s m args below meth c A D tc ad H locs cells slots ls' C hH hB hl)

theorem s_ldc_w {i : Nat} {v : Int} (hd : decode Y.cd pc = .ok (.ldc_w i, 3)) (hw : Cond.constant Y.own i (Int32.ofInt v) ∈ GW) (kk : Wp Y k Q b (pc + 3) ls (zI v :: st) n h) : Wp Y k Q b pc ls st n h := by
  intro p l e R s m args below meth c A D tc ad H locs cells slots ls' C hH hB hl
  have C0 := C
  obtain ⟨⟨hx, hb, hml, hr, hlk⟩, hown, hts, hK, hA, hR, hst, hE, hin, hexc, hlaw⟩ := C0
  exact lv_ldcw hx hb hown (hts _ hw) hd (kk p l e R s m args below meth c A D tc ad H locs cells slots ls' C hH hB hl)

theorem s_iload_n {f : Fin 4} {x : Int} (hd : decode Y.cd pc = .ok (.iload_n f, 1)) (hi : ls[(f : Nat)]? = some (zI x)) (kk : Wp Y k Q b (pc + 1) ls (zI x :: st) n h) : Wp Y k Q b pc ls st n h := by
  intro p l e R s m args below meth c A D tc ad H locs cells slots ls' C hH hB hl
  have C0 := C
  obtain ⟨⟨hx, hb, hml, hr, hlk⟩, hown, hts, hK, hA, hR, hst, hE, hin, hexc, hlaw⟩ := C0
  exact lv_iload_n hx hb hd rfl (zl_at hl hi rfl) (kk p l e R s m args below meth c A D tc ad H locs cells slots ls' C hH hB hl)

theorem s_iload {i : Nat} {x : Int} (hd : decode Y.cd pc = .ok (.iload i, 2)) (hi : ls[i]? = some (zI x)) (kk : Wp Y k Q b (pc + 2) ls (zI x :: st) n h) : Wp Y k Q b pc ls st n h := by
  intro p l e R s m args below meth c A D tc ad H locs cells slots ls' C hH hB hl
  have C0 := C
  obtain ⟨⟨hx, hb, hml, hr, hlk⟩, hown, hts, hK, hA, hR, hst, hE, hin, hexc, hlaw⟩ := C0
  exact lv_iload hx hb hd (zl_at hl hi rfl) (kk p l e R s m args below meth c A D tc ad H locs cells slots ls' C hH hB hl)

theorem s_lload_n {f : Fin 4} {x : Int} (hd : decode Y.cd pc = .ok (.lload_n f, 1)) (hi : ls[(f : Nat)]? = some (zL x)) (kk : Wp Y k Q b (pc + 1) ls (zL x :: st) n h) : Wp Y k Q b pc ls st n h := by
  intro p l e R s m args below meth c A D tc ad H locs cells slots ls' C hH hB hl
  have C0 := C
  obtain ⟨⟨hx, hb, hml, hr, hlk⟩, hown, hts, hK, hA, hR, hst, hE, hin, hexc, hlaw⟩ := C0
  exact lv_lload_n hx hb hd rfl (zl_at hl hi rfl) (kk p l e R s m args below meth c A D tc ad H locs cells slots ls' C hH hB hl)

theorem s_lload {i : Nat} {x : Int} (hd : decode Y.cd pc = .ok (.lload i, 2)) (hi : ls[i]? = some (zL x)) (kk : Wp Y k Q b (pc + 2) ls (zL x :: st) n h) : Wp Y k Q b pc ls st n h := by
  intro p l e R s m args below meth c A D tc ad H locs cells slots ls' C hH hB hl
  have C0 := C
  obtain ⟨⟨hx, hb, hml, hr, hlk⟩, hown, hts, hK, hA, hR, hst, hE, hin, hexc, hlaw⟩ := C0
  exact lv_lload hx hb hd (zl_at hl hi rfl) (kk p l e R s m args below meth c A D tc ad H locs cells slots ls' C hH hB hl)

theorem s_aload_n {f : Fin 4} {x : Int} (hd : decode Y.cd pc = .ok (.aload_n f, 1)) (hi : ls[(f : Nat)]? = some (zR x)) (kk : Wp Y k Q b (pc + 1) ls (zR x :: st) n h) : Wp Y k Q b pc ls st n h := by
  intro p l e R s m args below meth c A D tc ad H locs cells slots ls' C hH hB hl
  have C0 := C
  obtain ⟨⟨hx, hb, hml, hr, hlk⟩, hown, hts, hK, hA, hR, hst, hE, hin, hexc, hlaw⟩ := C0
  have q := kk p l e R s m args below meth c A D tc ad H locs cells slots ls' C hH hB hl
  have z := zl_at hl hi rfl
  rw [List.map_cons] at q
  by_cases e : x = 0
  · have e2 : zv ad (zR x) = .null := by simp [zv, zR, e]
    rw [e2] at q z
    exact lv_aload_nN hx hb hd rfl z q
  · rw [zv_ref e] at q z
    exact lv_aload_n hx hb hd rfl z q

theorem s_aload {i : Nat} {x : Int} (hd : decode Y.cd pc = .ok (.aload i, 2)) (hi : ls[i]? = some (zR x)) (kk : Wp Y k Q b (pc + 2) ls (zR x :: st) n h) : Wp Y k Q b pc ls st n h := by
  intro p l e R s m args below meth c A D tc ad H locs cells slots ls' C hH hB hl
  have C0 := C
  obtain ⟨⟨hx, hb, hml, hr, hlk⟩, hown, hts, hK, hA, hR, hst, hE, hin, hexc, hlaw⟩ := C0
  have q := kk p l e R s m args below meth c A D tc ad H locs cells slots ls' C hH hB hl
  have z := zl_at hl hi rfl
  rw [List.map_cons] at q
  by_cases e : x = 0
  · have e2 : zv ad (zR x) = .null := by simp [zv, zR, e]
    rw [e2] at q z
    exact lv_aloadN hx hb hd z q
  · rw [zv_ref e] at q z
    exact lv_aload hx hb hd z q

theorem s_istore_n {f : Fin 4} {x : Int} (hd : decode Y.cd pc = .ok (.istore_n f, 1)) (hg : nlg ls (f : Nat) = true) (hn : (f : Nat) < Y.nL) (kk : Wp Y k Q b (pc + 1) (ls.set (f : Nat) (zI x)) st n h) : Wp Y k Q b pc ls (zI x :: st) n h := by
  intro p l e R s m args below meth c A D tc ad H locs cells slots ls' C hH hB hl
  have C0 := C
  obtain ⟨⟨hx, hb, hml, hr, hlk⟩, hown, hts, hK, hA, hR, hst, hE, hin, hexc, hlaw⟩ := C0
  exact lv_istore_n hx hb hd rfl hl hn rfl (fun l2 hl2 => kk p l e R s m args below meth c A D tc ad H locs cells slots l2 C hH hB (zl_set hg rfl hl2))

theorem s_istore {i : Nat} {x : Int} (hd : decode Y.cd pc = .ok (.istore i, 2)) (hg : nlg ls i = true) (hn : i < Y.nL) (kk : Wp Y k Q b (pc + 2) (ls.set i (zI x)) st n h) : Wp Y k Q b pc ls (zI x :: st) n h := by
  intro p l e R s m args below meth c A D tc ad H locs cells slots ls' C hH hB hl
  have C0 := C
  obtain ⟨⟨hx, hb, hml, hr, hlk⟩, hown, hts, hK, hA, hR, hst, hE, hin, hexc, hlaw⟩ := C0
  exact lv_istore hx hb hd hl hn rfl (fun l2 hl2 => kk p l e R s m args below meth c A D tc ad H locs cells slots l2 C hH hB (zl_set hg rfl hl2))

theorem s_astore_n {f : Fin 4} {x : Int} (hd : decode Y.cd pc = .ok (.astore_n f, 1)) (hg : nlg ls (f : Nat) = true) (hn : (f : Nat) < Y.nL) (kk : Wp Y k Q b (pc + 1) (ls.set (f : Nat) (zR x)) st n h) : Wp Y k Q b pc ls (zR x :: st) n h := by
  intro p l e R s m args below meth c A D tc ad H locs cells slots ls' C hH hB hl
  have C0 := C
  obtain ⟨⟨hx, hb, hml, hr, hlk⟩, hown, hts, hK, hA, hR, hst, hE, hin, hexc, hlaw⟩ := C0
  rw [List.map_cons]
  by_cases e0 : x = 0
  · have e2 : zv ad (zR x) = .null := by simp [zv, zR, e0]
    rw [e2]
    exact lv_astore_nN hx hb hd rfl hl hn rfl (fun l2 hl2 => kk p l e R s m args below meth c A D tc ad H locs cells slots l2 C hH hB (zl_set (v := zR x) hg (by rw [e2]) hl2))
  · have e2 := zv_ref (ad := ad) e0
    rw [e2]
    exact lv_astore_n hx hb hd rfl hl hn rfl (fun l2 hl2 => kk p l e R s m args below meth c A D tc ad H locs cells slots l2 C hH hB (zl_set (v := zR x) hg (by rw [e2]) hl2))

theorem s_astore {i : Nat} {x : Int} (hd : decode Y.cd pc = .ok (.astore i, 2)) (hg : nlg ls i = true) (hn : i < Y.nL) (kk : Wp Y k Q b (pc + 2) (ls.set i (zR x)) st n h) : Wp Y k Q b pc ls (zR x :: st) n h := by
  intro p l e R s m args below meth c A D tc ad H locs cells slots ls' C hH hB hl
  have C0 := C
  obtain ⟨⟨hx, hb, hml, hr, hlk⟩, hown, hts, hK, hA, hR, hst, hE, hin, hexc, hlaw⟩ := C0
  rw [List.map_cons]
  by_cases e0 : x = 0
  · have e2 : zv ad (zR x) = .null := by simp [zv, zR, e0]
    rw [e2]
    exact lv_astoreN hx hb hd hl hn rfl (fun l2 hl2 => kk p l e R s m args below meth c A D tc ad H locs cells slots l2 C hH hB (zl_set (v := zR x) hg (by rw [e2]) hl2))
  · have e2 := zv_ref (ad := ad) e0
    rw [e2]
    exact lv_astore hx hb hd hl hn rfl (fun l2 hl2 => kk p l e R s m args below meth c A D tc ad H locs cells slots l2 C hH hB (zl_set (v := zR x) hg (by rw [e2]) hl2))

theorem s_iinc {i : Nat} {x d : Int} (hd : decode Y.cd pc = .ok (.iinc i d, 3)) (hi : ls[i]? = some (zI x)) (hg : nlg ls i = true) (hn : i < Y.nL) (kk : Wp Y k Q b (pc + 3) (ls.set i (zI (x + d))) st n h) : Wp Y k Q b pc ls st n h := by
  intro p l e R s m args below meth c A D tc ad H locs cells slots ls' C hH hB hl
  have C0 := C
  obtain ⟨⟨hx, hb, hml, hr, hlk⟩, hown, hts, hK, hA, hR, hst, hE, hin, hexc, hlaw⟩ := C0
  have hm := (lvl_mem (ad := ad) (ls := ls) (i := i) (w := .int (Int32.ofInt x))).mpr ⟨_, hi, rfl, rfl⟩
  obtain ⟨j, hj⟩ := List.getElem?_of_mem hm
  exact lv_iinc hx hb hd hl hj (v := Int32.ofInt (x + d)) (by rw [Int32.ofInt_add]) hn rfl (fun l2 hl2 => kk p l e R s m args below meth c A D tc ad H locs cells slots l2 C hH hB (zl_set hg rfl hl2))

theorem s_forget {ls2 : List AV} (hs : ∀ (i : Nat) (v : AV), ls2[i]? = some v → v.isSome = true → ls[i]? = some v) (kk : Wp Y k Q b pc ls2 st n h) : Wp Y k Q b pc ls st n h := by
  intro p l e R s m args below meth c A D tc ad H locs cells slots ls' C hH hB hl
  exact kk p l e R s m args below meth c A D tc ad H locs cells slots ls' C hH hB (zl_sub hl hs)
/-- ls2 is ls but for places that are forgotten -/
def fgt : List AV → List AV → Prop
  | [], [] => True
  | none :: r, _ :: r2 => fgt r r2
  | v :: r, w :: r2 => v = w ∧ fgt r r2
  | _, _ => False
theorem fgt_ok : ∀ {l2 l : List AV}, fgt l2 l → ∀ (i : Nat) (v : AV), l2[i]? = some v → v.isSome = true → l[i]? = some v
  | [], [], _, i, v, h, _ => by simp at h
  | none :: r, w :: r2, q, 0, v, h, hv => by simp at h; subst h; cases hv
  | none :: r, w :: r2, q, i + 1, v, h, hv => by simpa using fgt_ok (l2 := r) (l := r2) q i v (by simpa using h) hv
  | some u :: r, w :: r2, q, 0, v, h, hv => by simp at h; subst h; simp [q.1]
  | some u :: r, w :: r2, q, i + 1, v, h, hv => by simpa using fgt_ok (l2 := r) (l := r2) q.2 i v (by simpa using h) hv
  | [], _ :: _, q, _, _, _, _ => q.elim
  | none :: _, [], q, _, _, _, _ => q.elim
  | some _ :: _, [], q, _, _, _, _ => q.elim
theorem s_fgt {ls2 : List AV} (hs : fgt ls2 ls) (kk : Wp Y k Q b pc ls2 st n h) : Wp Y k Q b pc ls st n h := s_forget (fgt_ok hs) kk

theorem s_iadd {x y : Int} (hd : decode Y.cd pc = .ok (.iadd, 1)) (kk : Wp Y k Q b (pc + 1) ls (zI (x + y) :: st) n h) : Wp Y k Q b pc ls (zI y :: zI x :: st) n h := by
  intro p l e R s m args below meth c A D tc ad H locs cells slots ls' C hH hB hl
  have C0 := C
  obtain ⟨⟨hx, hb, hml, hr, hlk⟩, hown, hts, hK, hA, hR, hst, hE, hin, hexc, hlaw⟩ := C0
  have q := kk p l e R s m args below meth c A D tc ad H locs cells slots ls' C hH hB hl
  have e2 : zv ad (zI (x + y)) = .int (Int32.ofInt x + Int32.ofInt y) := by simp [zv, zI, Int32.ofInt_add]
  rw [List.map_cons, e2] at q
  exact lv_iadd hx hb hd q

theorem s_isub {x y : Int} (hd : decode Y.cd pc = .ok (.isub, 1)) (kk : Wp Y k Q b (pc + 1) ls (zI (x - y) :: st) n h) : Wp Y k Q b pc ls (zI y :: zI x :: st) n h := by
  intro p l e R s m args below meth c A D tc ad H locs cells slots ls' C hH hB hl
  have C0 := C
  obtain ⟨⟨hx, hb, hml, hr, hlk⟩, hown, hts, hK, hA, hR, hst, hE, hin, hexc, hlaw⟩ := C0
  have q := kk p l e R s m args below meth c A D tc ad H locs cells slots ls' C hH hB hl
  have e2 : zv ad (zI (x - y)) = .int (Int32.ofInt x - Int32.ofInt y) := by simp [zv, zI, Int32.ofInt_sub]
  rw [List.map_cons, e2] at q
  exact lv_isub hx hb hd q

theorem s_imul {x y : Int} (hd : decode Y.cd pc = .ok (.imul, 1)) (kk : Wp Y k Q b (pc + 1) ls (zI (x * y) :: st) n h) : Wp Y k Q b pc ls (zI y :: zI x :: st) n h := by
  intro p l e R s m args below meth c A D tc ad H locs cells slots ls' C hH hB hl
  have C0 := C
  obtain ⟨⟨hx, hb, hml, hr, hlk⟩, hown, hts, hK, hA, hR, hst, hE, hin, hexc, hlaw⟩ := C0
  have q := kk p l e R s m args below meth c A D tc ad H locs cells slots ls' C hH hB hl
  have e2 : zv ad (zI (x * y)) = .int (Int32.ofInt x * Int32.ofInt y) := by simp [zv, zI, Int32.ofInt_mul]
  rw [List.map_cons, e2] at q
  exact lv_imul hx hb hd q

def bAnd (x y : Int) : Int := (Int32.ofInt x &&& Int32.ofInt y).toInt
def bOr (x y : Int) : Int := (Int32.ofInt x ||| Int32.ofInt y).toInt
def bXor (x y : Int) : Int := (Int32.ofInt x ^^^ Int32.ofInt y).toInt
def bShl (x y : Int) : Int := (Int32.ofInt x <<< (Int32.ofInt y &&& 31)).toInt
def bShr (x y : Int) : Int := (Int32.ofInt x >>> (Int32.ofInt y &&& 31)).toInt
def bUshr (x y : Int) : Int := ((Int32.ofInt x).toUInt32 >>> ((Int32.ofInt y).toUInt32 &&& Int32.toUInt32 31)).toInt32.toInt
def bDiv (x y : Int) : Int := (Int32.ofInt x / Int32.ofInt y).toInt
def bRem (x y : Int) : Int := (Int32.ofInt x - Int32.ofInt x / Int32.ofInt y * Int32.ofInt y).toInt
theorem ofI (x : Int32) : Int32.ofInt x.toInt = x := Int32.ofInt_toInt x
theorem ofL (x : Int64) : Int64.ofInt x.toInt = x := Int64.ofInt_toInt x

theorem s_iand {x y : Int} (hd : decode Y.cd pc = .ok (.iand, 1)) (kk : Wp Y k Q b (pc + 1) ls (zI (bAnd x y) :: st) n h) : Wp Y k Q b pc ls (zI y :: zI x :: st) n h := by
  intro p l e R s m args below meth c A D tc ad H locs cells slots ls' C hH hB hl
  have C0 := C
  obtain ⟨⟨hx, hb, hml, hr, hlk⟩, hown, hts, hK, hA, hR, hst, hE, hin, hexc, hlaw⟩ := C0
  have q := kk p l e R s m args below meth c A D tc ad H locs cells slots ls' C hH hB hl
  rw [List.map_cons, show zv ad (zI (bAnd x y)) = .int (Int32.ofInt (bAnd x y)) from rfl, bAnd, ofI] at q
  exact lv_iand hx hb hd q

theorem s_ior {x y : Int} (hd : decode Y.cd pc = .ok (.ior, 1)) (kk : Wp Y k Q b (pc + 1) ls (zI (bOr x y) :: st) n h) : Wp Y k Q b pc ls (zI y :: zI x :: st) n h := by
  intro p l e R s m args below meth c A D tc ad H locs cells slots ls' C hH hB hl
  have C0 := C
  obtain ⟨⟨hx, hb, hml, hr, hlk⟩, hown, hts, hK, hA, hR, hst, hE, hin, hexc, hlaw⟩ := C0
  have q := kk p l e R s m args below meth c A D tc ad H locs cells slots ls' C hH hB hl
  rw [List.map_cons, show zv ad (zI (bOr x y)) = .int (Int32.ofInt (bOr x y)) from rfl, bOr, ofI] at q
  exact lv_ior hx hb hd q

theorem s_ixor {x y : Int} (hd : decode Y.cd pc = .ok (.ixor, 1)) (kk : Wp Y k Q b (pc + 1) ls (zI (bXor x y) :: st) n h) : Wp Y k Q b pc ls (zI y :: zI x :: st) n h := by
  intro p l e R s m args below meth c A D tc ad H locs cells slots ls' C hH hB hl
  have C0 := C
  obtain ⟨⟨hx, hb, hml, hr, hlk⟩, hown, hts, hK, hA, hR, hst, hE, hin, hexc, hlaw⟩ := C0
  have q := kk p l e R s m args below meth c A D tc ad H locs cells slots ls' C hH hB hl
  rw [List.map_cons, show zv ad (zI (bXor x y)) = .int (Int32.ofInt (bXor x y)) from rfl, bXor, ofI] at q
  exact lv_ixor hx hb hd q

theorem s_ishl {x y : Int} (hd : decode Y.cd pc = .ok (.ishl, 1)) (kk : Wp Y k Q b (pc + 1) ls (zI (bShl x y) :: st) n h) : Wp Y k Q b pc ls (zI y :: zI x :: st) n h := by
  intro p l e R s m args below meth c A D tc ad H locs cells slots ls' C hH hB hl
  have C0 := C
  obtain ⟨⟨hx, hb, hml, hr, hlk⟩, hown, hts, hK, hA, hR, hst, hE, hin, hexc, hlaw⟩ := C0
  have q := kk p l e R s m args below meth c A D tc ad H locs cells slots ls' C hH hB hl
  rw [List.map_cons, show zv ad (zI (bShl x y)) = .int (Int32.ofInt (bShl x y)) from rfl, bShl, ofI] at q
  exact lv_ishl hx hb hd q

theorem s_ishr {x y : Int} (hd : decode Y.cd pc = .ok (.ishr, 1)) (kk : Wp Y k Q b (pc + 1) ls (zI (bShr x y) :: st) n h) : Wp Y k Q b pc ls (zI y :: zI x :: st) n h := by
  intro p l e R s m args below meth c A D tc ad H locs cells slots ls' C hH hB hl
  have C0 := C
  obtain ⟨⟨hx, hb, hml, hr, hlk⟩, hown, hts, hK, hA, hR, hst, hE, hin, hexc, hlaw⟩ := C0
  have q := kk p l e R s m args below meth c A D tc ad H locs cells slots ls' C hH hB hl
  rw [List.map_cons, show zv ad (zI (bShr x y)) = .int (Int32.ofInt (bShr x y)) from rfl, bShr, ofI] at q
  exact lv_ishr hx hb hd q

theorem s_iushr {x y : Int} (hd : decode Y.cd pc = .ok (.iushr, 1)) (kk : Wp Y k Q b (pc + 1) ls (zI (bUshr x y) :: st) n h) : Wp Y k Q b pc ls (zI y :: zI x :: st) n h := by
  intro p l e R s m args below meth c A D tc ad H locs cells slots ls' C hH hB hl
  have C0 := C
  obtain ⟨⟨hx, hb, hml, hr, hlk⟩, hown, hts, hK, hA, hR, hst, hE, hin, hexc, hlaw⟩ := C0
  have q := kk p l e R s m args below meth c A D tc ad H locs cells slots ls' C hH hB hl
  rw [List.map_cons, show zv ad (zI (bUshr x y)) = .int (Int32.ofInt (bUshr x y)) from rfl, bUshr, ofI] at q
  exact lv_iushr hx hb hd rfl q

theorem s_idiv {x y : Int} (hd : decode Y.cd pc = .ok (.idiv, 1)) (ry : R32 y) (hy : y ≠ 0) (kk : Wp Y k Q b (pc + 1) ls (zI (bDiv x y) :: st) n h) : Wp Y k Q b pc ls (zI y :: zI x :: st) n h := by
  intro p l e R s m args below meth c A D tc ad H locs cells slots ls' C hH hB hl
  have C0 := C
  obtain ⟨⟨hx, hb, hml, hr, hlk⟩, hown, hts, hK, hA, hR, hst, hE, hin, hexc, hlaw⟩ := C0
  have q := kk p l e R s m args below meth c A D tc ad H locs cells slots ls' C hH hB hl
  rw [List.map_cons, show zv ad (zI (bDiv x y)) = .int (Int32.ofInt (bDiv x y)) from rfl, bDiv, ofI] at q
  exact lv_idiv hx hb hd (fun z => hy ((i32z ry).mp z)) q

theorem s_irem {x y : Int} (hd : decode Y.cd pc = .ok (.irem, 1)) (ry : R32 y) (hy : y ≠ 0) (kk : Wp Y k Q b (pc + 1) ls (zI (bRem x y) :: st) n h) : Wp Y k Q b pc ls (zI y :: zI x :: st) n h := by
  intro p l e R s m args below meth c A D tc ad H locs cells slots ls' C hH hB hl
  have C0 := C
  obtain ⟨⟨hx, hb, hml, hr, hlk⟩, hown, hts, hK, hA, hR, hst, hE, hin, hexc, hlaw⟩ := C0
  have q := kk p l e R s m args below meth c A D tc ad H locs cells slots ls' C hH hB hl
  rw [List.map_cons, show zv ad (zI (bRem x y)) = .int (Int32.ofInt (bRem x y)) from rfl, bRem, ofI] at q
  exact lv_irem hx hb hd (fun z => hy ((i32z ry).mp z)) q

theorem s_ineg {x : Int} (hd : decode Y.cd pc = .ok (.ineg, 1)) (kk : Wp Y k Q b (pc + 1) ls (zI (0 - x) :: st) n h) : Wp Y k Q b pc ls (zI x :: st) n h := by
  intro p l e R s m args below meth c A D tc ad H locs cells slots ls' C hH hB hl
  have C0 := C
  obtain ⟨⟨hx, hb, hml, hr, hlk⟩, hown, hts, hK, hA, hR, hst, hE, hin, hexc, hlaw⟩ := C0
  have q := kk p l e R s m args below meth c A D tc ad H locs cells slots ls' C hH hB hl
  have e2 : zv ad (zI (0 - x)) = .int (0 - Int32.ofInt x) := by simp [zv, zI, Int32.ofInt_neg]
  rw [List.map_cons, e2] at q
  exact lv_ineg hx hb hd q

def w8 (x : Int) : Int := (Int32.ofInt x).toInt8.toInt32.toInt
def w16 (x : Int) : Int := ((Int32.ofInt x).toUInt32 % 65536).toInt32.toInt
def lOr (x y : Int) : Int := (Int64.ofInt x ||| Int64.ofInt y).toInt
def lShl (x y : Int) : Int := (Int64.ofInt x <<< ((Int32.ofInt y).toInt64 &&& 63)).toInt
def i2l (x : Int) : Int := (Int32.ofInt x).toInt64.toInt
theorem i2l_eq {x : Int} (h : R32 x) : i2l x = x := by
  unfold i2l
  rw [Int32.toInt_toInt64, toInt32 h]

theorem s_i2b {x : Int} (hd : decode Y.cd pc = .ok (.i2b, 1)) (kk : Wp Y k Q b (pc + 1) ls (zI (w8 x) :: st) n h) : Wp Y k Q b pc ls (zI x :: st) n h := by
  intro p l e R s m args below meth c A D tc ad H locs cells slots ls' C hH hB hl
  have C0 := C
  obtain ⟨⟨hx, hb, hml, hr, hlk⟩, hown, hts, hK, hA, hR, hst, hE, hin, hexc, hlaw⟩ := C0
  have q := kk p l e R s m args below meth c A D tc ad H locs cells slots ls' C hH hB hl
  rw [List.map_cons, show zv ad (zI (w8 x)) = .int (Int32.ofInt (w8 x)) from rfl, w8, ofI] at q
  exact lv_i2b hx hb hd rfl q

theorem s_i2c {x : Int} (hd : decode Y.cd pc = .ok (.i2c, 1)) (kk : Wp Y k Q b (pc + 1) ls (zI (w16 x) :: st) n h) : Wp Y k Q b pc ls (zI x :: st) n h := by
  intro p l e R s m args below meth c A D tc ad H locs cells slots ls' C hH hB hl
  have C0 := C
  obtain ⟨⟨hx, hb, hml, hr, hlk⟩, hown, hts, hK, hA, hR, hst, hE, hin, hexc, hlaw⟩ := C0
  have q := kk p l e R s m args below meth c A D tc ad H locs cells slots ls' C hH hB hl
  rw [List.map_cons, show zv ad (zI (w16 x)) = .int (Int32.ofInt (w16 x)) from rfl, w16, ofI] at q
  exact lv_i2c hx hb hd rfl q

theorem s_i2l {x : Int} (hd : decode Y.cd pc = .ok (.i2l, 1)) (kk : Wp Y k Q b (pc + 1) ls (zL (i2l x) :: st) n h) : Wp Y k Q b pc ls (zI x :: st) n h := by
  intro p l e R s m args below meth c A D tc ad H locs cells slots ls' C hH hB hl
  have C0 := C
  obtain ⟨⟨hx, hb, hml, hr, hlk⟩, hown, hts, hK, hA, hR, hst, hE, hin, hexc, hlaw⟩ := C0
  have q := kk p l e R s m args below meth c A D tc ad H locs cells slots ls' C hH hB hl
  rw [List.map_cons, show zv ad (zL (i2l x)) = .long (Int64.ofInt (i2l x)) from rfl, i2l, ofL] at q
  exact lv_i2l hx hb hd rfl q

theorem s_lor {x y : Int} (hd : decode Y.cd pc = .ok (.lor, 1)) (kk : Wp Y k Q b (pc + 1) ls (zL (lOr x y) :: st) n h) : Wp Y k Q b pc ls (zL y :: zL x :: st) n h := by
  intro p l e R s m args below meth c A D tc ad H locs cells slots ls' C hH hB hl
  have C0 := C
  obtain ⟨⟨hx, hb, hml, hr, hlk⟩, hown, hts, hK, hA, hR, hst, hE, hin, hexc, hlaw⟩ := C0
  have q := kk p l e R s m args below meth c A D tc ad H locs cells slots ls' C hH hB hl
  rw [List.map_cons, show zv ad (zL (lOr x y)) = .long (Int64.ofInt (lOr x y)) from rfl, lOr, ofL] at q
  exact lv_lor hx hb hd q

theorem s_lshl {x y : Int} (hd : decode Y.cd pc = .ok (.lshl, 1)) (kk : Wp Y k Q b (pc + 1) ls (zL (lShl x y) :: st) n h) : Wp Y k Q b pc ls (zI y :: zL x :: st) n h := by
  intro p l e R s m args below meth c A D tc ad H locs cells slots ls' C hH hB hl
  have C0 := C
  obtain ⟨⟨hx, hb, hml, hr, hlk⟩, hown, hts, hK, hA, hR, hst, hE, hin, hexc, hlaw⟩ := C0
  have q := kk p l e R s m args below meth c A D tc ad H locs cells slots ls' C hH hB hl
  rw [List.map_cons, show zv ad (zL (lShl x y)) = .long (Int64.ofInt (lShl x y)) from rfl, lShl, ofL] at q
  exact lv_lshl hx hb hd rfl q

end RulesA
