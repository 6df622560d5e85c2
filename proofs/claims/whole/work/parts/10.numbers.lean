/-! ===== numbers: quotients, shifts; forgetting; frames ===== -/
theorem ofInt_eq {x : Int} {y : Int32} (h : Int32.ofInt x = y) : Int32.ofInt x = y := h
theorem bDiv_eq {x y : Int} (x0 : 0 ≤ x) (x1 : x < 2147483648) (y0 : 0 < y) (y1 : y < 2147483648) : bDiv x y = x / y := by
  unfold bDiv
  rw [Int32.toInt_div, toInt32 ⟨by omega, x1⟩, toInt32 ⟨by omega, y1⟩, Int.tdiv_eq_ediv_of_nonneg x0]
  have h1 : 0 ≤ x / y := Int.ediv_nonneg x0 (by omega)
  have h2 : x / y ≤ x := Int.ediv_le_self y x0
  unfold Int.bmod
  simp only [show ((2 ^ 32 : Nat) : Int) = 4294967296 from rfl]
  omega
theorem bRem_eq {x y : Int} (x0 : 0 ≤ x) (x1 : x < 2147483648) (y0 : 0 < y) (y1 : y < 2147483648) : Int32.ofInt (bRem x y) = Int32.ofInt (x % y) := by
  unfold bRem
  rw [ofI]
  have e : Int32.ofInt x / Int32.ofInt y = Int32.ofInt (x / y) := by
    rw [← bDiv_eq x0 x1 y0 y1]
    unfold bDiv
    rw [ofI]
  rw [e, ← Int32.ofInt_mul, ← Int32.ofInt_sub]
  congr 1
  have := Int.mul_ediv_add_emod x y
  have h2 : x / y * y = y * (x / y) := Int.mul_comm _ _
  omega
section RulesH
variable {Y : YD} {k : KD} {Q : RS → Nat → AH → Prop} {b : Nat × Nat} {pc : Nat} {ls st : List AV} {n : Nat} {h : AH}

theorem s_idivN {x y : Int} (hd : decode Y.cd pc = .ok (.idiv, 1)) (x0 : 0 ≤ x) (x1 : x < 2147483648) (y0 : 0 < y) (y1 : y < 2147483648) (kk : Wp Y k Q b (pc + 1) ls (zI (x / y) :: st) n h) : Wp Y k Q b pc ls (zI y :: zI x :: st) n h :=
  s_idiv hd ⟨by omega, y1⟩ (by omega) (by rw [bDiv_eq x0 x1 y0 y1]; exact kk)
theorem s_iremN {x y : Int} (hd : decode Y.cd pc = .ok (.irem, 1)) (x0 : 0 ≤ x) (x1 : x < 2147483648) (y0 : 0 < y) (y1 : y < 2147483648) (kk : Wp Y k Q b (pc + 1) ls (zI (x % y) :: st) n h) : Wp Y k Q b pc ls (zI y :: zI x :: st) n h := by
  refine s_irem hd ⟨by omega, y1⟩ (by omega) ?_
  intro p l e R s m args below meth cd A D tc ad H locs cells slots ls' C hH hB hl
  have q := kk p l e R s m args below meth cd A D tc ad H locs cells slots ls' C hH hB hl
  have e9 : zv ad (zI (x % y)) = zv ad (zI (bRem x y)) := by
    show Value.int (Int32.ofInt (x % y)) = Value.int (Int32.ofInt (bRem x y))
    rw [bRem_eq x0 x1 y0 y1]
  rw [List.map_cons, e9] at q
  exact q
theorem smod_lit {y : Int} (h0 : 0 ≤ y) (h1 : y < 32) : ((Int32.ofInt y &&& 31).toBitVec.smod 32).toNat = y.toNat := by
  obtain ⟨m, rfl⟩ : ∃ m : Nat, y = m := ⟨y.toNat, by omega⟩
  have hm : m < 32 := by omega
  have : ∀ m : Fin 32, ((Int32.ofInt ((m : Nat) : Int) &&& 31).toBitVec.smod 32).toNat = ((m : Nat) : Int).toNat := by decide +kernel
  exact this ⟨m, hm⟩
theorem bShl_eq {x y : Int} (h0 : 0 ≤ y) (h1 : y < 32) : Int32.ofInt (bShl x y) = Int32.ofInt (x * 2 ^ y.toNat) := by
  unfold bShl
  rw [ofI]
  apply Int32.toBitVec_inj.mp
  apply BitVec.eq_of_toNat_eq
  rw [pk_shl _ _ y.toNat (smod_lit h0 h1)]
  show (BitVec.ofInt 32 x).toNat * 2 ^ y.toNat % 2 ^ 32 = (BitVec.ofInt 32 (x * 2 ^ y.toNat)).toNat
  rw [BitVec.toNat_ofInt, BitVec.toNat_ofInt]
  have e1 : ((2 : Int) ^ y.toNat) = ((2 ^ y.toNat : Nat) : Int) := by norm_cast
  have h2 : (0 : Int) ≤ x % ((2 ^ 32 : Nat) : Int) := Int.emod_nonneg _ (by decide)
  have h3 : (0 : Int) ≤ (x * 2 ^ y.toNat) % ((2 ^ 32 : Nat) : Int) := Int.emod_nonneg _ (by decide)
  apply Int.ofNat.inj
  show (((x % ((2 ^ 32 : Nat) : Int)).toNat * 2 ^ y.toNat % 2 ^ 32 : Nat) : Int) = ((((x * 2 ^ y.toNat) % ((2 ^ 32 : Nat) : Int)).toNat : Nat) : Int)
  rw [Int.toNat_of_nonneg h3, Int.natCast_emod, Int.natCast_mul, Int.toNat_of_nonneg h2, e1, Int.mul_emod (x % _), Int.emod_emod_of_dvd _ (Int.dvd_refl _), ← Int.mul_emod]
theorem s_ishlN {x y : Int} (hd : decode Y.cd pc = .ok (.ishl, 1)) (y0 : 0 ≤ y) (y1 : y < 32) (kk : Wp Y k Q b (pc + 1) ls (zI (x * 2 ^ y.toNat) :: st) n h) : Wp Y k Q b pc ls (zI y :: zI x :: st) n h := by
  refine s_ishl hd ?_
  intro p l e R s m args below meth cd A D tc ad H locs cells slots ls' C hH hB hl
  have q := kk p l e R s m args below meth cd A D tc ad H locs cells slots ls' C hH hB hl
  have e9 : zv ad (zI (x * 2 ^ y.toNat)) = zv ad (zI (bShl x y)) := by
    show Value.int (Int32.ofInt (x * 2 ^ y.toNat)) = Value.int (Int32.ofInt (bShl x y))
    rw [bShl_eq y0 y1]
  rw [List.map_cons, e9] at q
  exact q
theorem bShr_eq {x y : Int} (rx : R32 x) (h0 : 0 ≤ y) (h1 : y < 32) : bShr x y = x / 2 ^ y.toNat := by
  unfold bShr
  rw [pk_shr _ _ y.toNat (smod_lit h0 h1), toInt32 rx, Int.shiftRight_eq_div_pow]
  simp
theorem s_ishrN {x y : Int} (hd : decode Y.cd pc = .ok (.ishr, 1)) (rx : R32 x) (y0 : 0 ≤ y) (y1 : y < 32) (kk : Wp Y k Q b (pc + 1) ls (zI (x / 2 ^ y.toNat) :: st) n h) : Wp Y k Q b pc ls (zI y :: zI x :: st) n h :=
  s_ishr hd (by rw [bShr_eq rx y0 y1]; exact kk)
theorem s_getFd {idx ci N kf : Nat} {off c d : Int} (hd : decode Y.cd pc = .ok (.getfield idx, 3)) (hf : Fk Y.own idx ci N kf 4 off) (hc : cel n c (ci, N)) (hm : k.md = true ∨ h c kf ≠ 0) (he : c + off = d) (ho : d ≠ 0) (kk : Wp Y k Q b (pc + 3) ls (zR d :: st) n h) : Wp Y k Q b pc ls (zR c :: st) n h :=
  s_getF hd hf hc rfl hm (by rw [he]; exact ho) (by rw [he]; exact kk)
end RulesH
theorem fgt_0 : fgt [] [] := trivial
theorem fgt_n {r r2 : List AV} (w : AV) (h : fgt r r2) : fgt (none :: r) (w :: r2) := h
theorem fgt_c {r r2 : List AV} {v : AV} (h : fgt r r2) : fgt (v :: r) (v :: r2) := by
  rcases v with _ | v
  · exact h
  · exact ⟨rfl, h⟩
abbrev kR (fr mc ms : Nat) : KD := (true, fr, mc, ms, 0, fun _ => 0)
def rI (R : Int → AH → Prop) : RS → Nat → AH → Prop := fun r n h => ∃ x, r = .inl (some (zI x)) ∧ n = 137 ∧ R x h
def rL (R : Int → AH → Prop) : RS → Nat → AH → Prop := fun r n h => ∃ x, r = .inl (some (zL x)) ∧ n = 137 ∧ R x h
def rV (R : AH → Prop) : RS → Nat → AH → Prop := fun r n h => r = .inl none ∧ n = 137 ∧ R h
/-- may throw too -/
def rIx (R : Int → AH → Prop) (X : String → AH → Prop) : RS → Nat → AH → Prop := fun r n h => n = 137 ∧ ((∃ x, r = .inl (some (zI x)) ∧ R x h) ∨ ∃ E, r = .inr E ∧ X E h)
def rVx (R : AH → Prop) (X : String → AH → Prop) : RS → Nat → AH → Prop := fun r n h => n = 137 ∧ ((r = .inl none ∧ R h) ∨ ∃ E, r = .inr E ∧ X E h)
theorem rI_nt {R : Int → AH → Prop} : ∀ E n' h', ¬ rI R (.inr E) n' h' := fun E n' h' z => by obtain ⟨x, e, -⟩ := z; cases e
theorem rL_nt {R : Int → AH → Prop} : ∀ E n' h', ¬ rL R (.inr E) n' h' := fun E n' h' z => by obtain ⟨x, e, -⟩ := z; cases e
theorem rV_nt {R : AH → Prop} : ∀ E n' h', ¬ rV R (.inr E) n' h' := fun E n' h' z => by obtain ⟨e, -⟩ := z; cases e
