/-! ===== bits of small numbers ===== -/
theorem ofInt_nat (m : Nat) : Int32.ofInt (m : Int) = nI m := rfl
theorem nI_and (a b : Nat) : nI a &&& nI b = nI (a &&& b) := by
  apply Int32.toBitVec_inj.mp
  apply BitVec.eq_of_toNat_eq
  show (BitVec.ofNat 32 a &&& BitVec.ofNat 32 b).toNat = (BitVec.ofNat 32 (a &&& b)).toNat
  rw [BitVec.toNat_and, BitVec.toNat_ofNat, BitVec.toNat_ofNat, BitVec.toNat_ofNat, Nat.and_mod_two_pow]
theorem nI_or (a b : Nat) : nI a ||| nI b = nI (a ||| b) := by
  apply Int32.toBitVec_inj.mp
  apply BitVec.eq_of_toNat_eq
  show (BitVec.ofNat 32 a ||| BitVec.ofNat 32 b).toNat = (BitVec.ofNat 32 (a ||| b)).toNat
  rw [BitVec.toNat_or, BitVec.toNat_ofNat, BitVec.toNat_ofNat, BitVec.toNat_ofNat, Nat.or_mod_two_pow]
theorem bAnd_nat {a b : Nat} (h : a &&& b < 2 ^ 31) : bAnd a b = ((a &&& b : Nat) : Int) := by
  unfold bAnd
  rw [ofInt_nat, ofInt_nat, nI_and, nI_toInt h]
theorem bOr_nat {a b : Nat} (h : a ||| b < 2 ^ 31) : bOr a b = ((a ||| b : Nat) : Int) := by
  unfold bOr
  rw [ofInt_nat, ofInt_nat, nI_or, nI_toInt h]
/-- the lowest bit -/
theorem bAnd_one {x : Int} (h0 : 0 ≤ x) : bAnd x 1 = x % 2 := by
  obtain ⟨m, rfl⟩ : ∃ m : Nat, x = m := ⟨x.toNat, by omega⟩
  have e : m &&& 1 = m % 2 := Nat.and_one_is_mod m
  have := bAnd_nat (a := m) (b := 1) (by rw [e]; omega)
  rw [e] at this
  have e2 : ((1 : Nat) : Int) = 1 := rfl
  rw [e2] at this
  rw [this]
  omega
/-- bit s of a mask -/
def bt (x : Int) (s : Nat) : Bool := x.toNat.testBit s
theorem bt_def {x : Int} (h0 : 0 ≤ x) (s : Nat) : bt x s = decide (x / 2 ^ s % 2 = 1) := by
  obtain ⟨m, rfl⟩ : ∃ m : Nat, x = m := ⟨x.toNat, by omega⟩
  unfold bt
  rw [Int.toNat_natCast, Nat.testBit_eq_decide_div_mod_eq]
  have : ((m : Int) / 2 ^ s % 2) = ((m / 2 ^ s % 2 : Nat) : Int) := by push_cast; rfl
  rw [this]
  by_cases e : m / 2 ^ s % 2 = 1
  · simp [e]
  · have : ¬ ((m / 2 ^ s % 2 : Nat) : Int) = 1 := by omega
    rw [decide_eq_false e, decide_eq_false this]
/-- how the class and the model look at a bit -/
theorem bit_look {x s : Int} (h0 : 0 ≤ x) (hs : 0 ≤ s) : bAnd (x / 2 ^ s.toNat) 1 = if bt x s.toNat = true then 1 else 0 := by
  have h1 : 0 ≤ x / 2 ^ s.toNat := Int.ediv_nonneg h0 (Int.le_of_lt (Int.pow_pos (by decide)))
  rw [bAnd_one h1, bt_def h0]
  by_cases e : x / 2 ^ s.toNat % 2 = 1
  · simp [e]
  · have : x / 2 ^ s.toNat % 2 = 0 := by omega
    simp [this]
theorem pow_nat (s : Nat) : ((2 : Int) ^ s) = ((2 ^ s : Nat) : Int) := by push_cast; rfl
/-- a bit is set -/
theorem bit_set {x s : Int} {N : Nat} (h0 : 0 ≤ x) (h1 : x < 2 ^ N) (hs : 0 ≤ s) (hN : s < N) (h31 : N ≤ 31) : bOr x (1 * 2 ^ s.toNat) = ((x.toNat ||| 2 ^ s.toNat : Nat) : Int) ∧ 0 ≤ bOr x (1 * 2 ^ s.toNat) ∧ bOr x (1 * 2 ^ s.toNat) < 2 ^ N ∧ ∀ j, bt (bOr x (1 * 2 ^ s.toNat)) j = (bt x j || decide (j = s.toNat)) := by
  obtain ⟨m, rfl⟩ : ∃ m : Nat, x = m := ⟨x.toNat, by omega⟩
  have hm : m < 2 ^ N := by rw [pow_nat] at h1; omega
  have hp : 2 ^ s.toNat < 2 ^ N := Nat.pow_lt_pow_right (by decide) (by omega)
  have ho : m ||| 2 ^ s.toNat < 2 ^ N := Nat.or_lt_two_pow hm hp
  have hb : 2 ^ N ≤ 2 ^ 31 := Nat.pow_le_pow_right (by decide) h31
  have e : bOr (m : Int) (1 * 2 ^ s.toNat) = ((m ||| 2 ^ s.toNat : Nat) : Int) := by
    rw [Int.one_mul, pow_nat]
    exact bOr_nat (by omega)
  rw [e]
  refine ⟨by rw [Int.toNat_natCast], by omega, by rw [pow_nat]; omega, fun j => ?_⟩
  unfold bt
  rw [Int.toNat_natCast, Int.toNat_natCast, Nat.testBit_or, Nat.testBit_two_pow]
  congr 1
  by_cases e2 : s.toNat = j
  · simp [e2]
  · simp [e2, Ne.symm e2]
