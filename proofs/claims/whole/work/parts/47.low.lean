/-! ===== the lowest bit of a mask ===== -/
theorem low_split : ∀ (l : Nat), 0 < l → ∃ k m, l = 2 ^ k * (2 * m + 1) := by
  intro l
  induction l using Nat.strongRecOn with
  | _ l ih =>
    intro hl
    by_cases e : l % 2 = 1
    · exact ⟨0, l / 2, by omega⟩
    · obtain ⟨k, m, hk⟩ := ih (l / 2) (by omega) (by omega)
      refine ⟨k + 1, m, ?_⟩
      rw [Nat.pow_succ, Nat.mul_comm (2 ^ k) 2, Nat.mul_assoc, ← hk]
      omega
theorem odd_bit (m j : Nat) : (2 * m + 1).testBit j = (decide (j = 0) || (2 * m).testBit j) := by
  cases j with
  | zero => simp
  | succ j => simp [Nat.testBit_succ, show (2 * m + 1) / 2 = m by omega]
theorem even_bit0 (m : Nat) : (2 * m).testBit 0 = false := by simp
theorem low_bits {k m : Nat} (j : Nat) : (2 ^ k * (2 * m + 1)).testBit j = (decide (j = k) || (decide (k < j) && (2 * m).testBit (j - k))) := by
  rw [Nat.testBit_two_pow_mul]
  by_cases e : j < k
  · rw [decide_eq_false (by omega), decide_eq_false (show ¬ j = k by omega), decide_eq_false (show ¬ k < j by omega)]; simp
  · rw [decide_eq_true (by omega), Bool.true_and, odd_bit]
    by_cases e2 : j = k
    · rw [decide_eq_true e2, decide_eq_true (show j - k = 0 by omega)]; simp
    · rw [decide_eq_false e2, decide_eq_false (show ¬ j - k = 0 by omega), decide_eq_true (show k < j by omega)]; simp
theorem low_pred {k m : Nat} (j : Nat) : (2 ^ k * (2 * m + 1) - 1).testBit j = (decide (j < k) || (decide (k < j) && (2 * m).testBit (j - k))) := by
  have hp : 0 < 2 ^ k := Nat.pow_pos (by decide)
  have e : 2 ^ k * (2 * m + 1) - 1 = 2 ^ k * (2 * m) + (2 ^ k - 1) := by
    rw [Nat.mul_add, Nat.mul_one]
    omega
  rw [e, Nat.testBit_two_pow_mul_add _ (by omega)]
  by_cases c : j < k
  · rw [if_pos c, decide_eq_true c, Nat.testBit_two_pow_sub_one, decide_eq_true c]; simp
  · rw [if_neg c, decide_eq_false c]
    by_cases c2 : j = k
    · rw [c2, Nat.sub_self, even_bit0]; simp
    · rw [decide_eq_true (show k < j by omega)]; simp
theorem low_lt {k m l N : Nat} (e : l = 2 ^ k * (2 * m + 1)) (h : l < 2 ^ N) : k < N := by
  have h1 : 2 ^ k ≤ l := by rw [e]; exact Nat.le_mul_of_pos_right _ (by omega)
  have h2 : 2 ^ k < 2 ^ N := by omega
  exact (Nat.pow_lt_pow_iff_right (by decide)).mp h2
/-- x is the lowest bit of l -/
def lowOf (l x : Int) : Prop := 0 ≤ x ∧ bt l x.toNat = true ∧ ∀ j : Nat, (j : Int) < x → bt l j = false
theorem lowOf.lt {l x : Int} {N : Nat} (hx : lowOf l x) (h1 : l < 2 ^ N) : x < N := by
  obtain ⟨h0, h2, -⟩ := hx
  by_cases c : x < N
  · exact c
  · exfalso
    have e : l.toNat < 2 ^ x.toNat := by
      have a : 2 ^ N ≤ 2 ^ x.toNat := Nat.pow_le_pow_right (by decide) (by omega)
      have hp : 0 < 2 ^ x.toNat := Nat.pow_pos (by decide)
      rw [pow_nat] at h1
      omega
    unfold bt at h2
    rw [Nat.testBit_lt_two_pow e] at h2
    exact absurd h2 (by decide)
/-- a bit taken away -/
theorem bit_drop {l x : Int} (l0 : 0 < l) (l1 : l < 2147483648) (hx : lowOf l x) : (0 ≤ bAnd l (l - 1) ∧ bAnd l (l - 1) < l) ∧ ∀ j, bt (bAnd l (l - 1)) j = (bt l j && decide ((j : Int) ≠ x)) := by
  obtain ⟨n, rfl⟩ : ∃ n : Nat, l = n := ⟨l.toNat, by omega⟩
  obtain ⟨k, m, e⟩ := low_split n (by omega)
  have hle : n &&& (n - 1) ≤ n - 1 := Nat.and_le_right
  have ea : bAnd (n : Int) ((n : Int) - 1) = ((n &&& (n - 1) : Nat) : Int) := by
    rw [show ((n : Int) - 1) = ((n - 1 : Nat) : Int) by omega]
    exact bAnd_nat (by omega)
  have ex : x = k := by
    obtain ⟨x0, x1, x2⟩ := hx
    unfold bt at x1 x2
    rw [Int.toNat_natCast, e] at x1 x2
    have hkk : (2 ^ k * (2 * m + 1)).testBit k = true := by rw [low_bits]; simp
    by_cases c : (k : Int) < x
    · have := x2 k c
      rw [hkk] at this
      exact absurd this (by decide)
    · by_cases c2 : x < k
      · rw [low_bits, decide_eq_false (by omega), decide_eq_false (by omega)] at x1
        exact absurd x1 (by simp)
      · omega
  rw [ea]
  refine ⟨⟨by omega, by omega⟩, fun j => ?_⟩
  unfold bt
  rw [Int.toNat_natCast, Int.toNat_natCast, Nat.testBit_and, ex]
  conv => lhs; rw [e, low_bits, low_pred]
  conv => rhs; rw [e, low_bits]
  by_cases c : j = k
  · subst c; simp
  · by_cases c2 : j < k
    · rw [decide_eq_false c, decide_eq_false (show ¬ k < j by omega)]; simp
    · rw [decide_eq_false c, decide_eq_false c2, decide_eq_true (show (j : Int) ≠ (k : Int) by omega)]; simp
theorem ofInt_neg (n : Nat) (h0 : 0 < n) (h : n < 2 ^ 32) : Int32.ofInt (0 - (n : Int)) = nI (2 ^ 32 - n) := by
  apply Int32.toBitVec_inj.mp
  show BitVec.ofInt 32 (0 - (n : Int)) = BitVec.ofNat 32 (2 ^ 32 - n)
  apply BitVec.eq_of_toNat_eq
  rw [BitVec.toNat_ofInt, BitVec.toNat_ofNat]
  omega
theorem low_mask {l : Int} (l0 : 0 < l) (l1 : l < 2147483648) : ∃ k : Nat, bAnd l (0 - l) = 2 ^ k ∧ lowOf l k := by
  obtain ⟨n, rfl⟩ : ∃ n : Nat, l = n := ⟨l.toNat, by omega⟩
  obtain ⟨k, m, e⟩ := low_split n (by omega)
  have hk : k < 31 := low_lt e (show n < 2 ^ 31 by omega)
  have hp : 2 ^ k < 2 ^ 31 := Nat.pow_lt_pow_right (by decide) hk
  have ea : n &&& (2 ^ 32 - n) = 2 ^ k := by
    apply Nat.eq_of_testBit_eq
    intro j
    rw [Nat.testBit_and, Nat.testBit_two_pow, show 2 ^ 32 - n = 2 ^ 32 - ((n - 1) + 1) by omega, Nat.testBit_two_pow_sub_succ (by omega)]
    rw [e, low_bits, low_pred]
    by_cases c : j = k
    · subst c; simp; omega
    · have c3 : ¬ k = j := fun z => c z.symm
      by_cases c2 : j < k
      · rw [decide_eq_false c, decide_eq_false (show ¬ k < j by omega), decide_eq_false c3]; simp
      · rw [decide_eq_false c, decide_eq_false c2, decide_eq_false c3]
        cases (decide (k < j) && (2 * m).testBit (j - k)) <;> simp
  refine ⟨k, ?_, by omega, ?_, fun j hj => ?_⟩
  · unfold bAnd
    rw [ofInt_neg n (by omega) (by omega), ofInt_nat, nI_and, ea, nI_toInt hp, pow_nat]
  · unfold bt
    rw [Int.toNat_natCast, Int.toNat_natCast, e, low_bits]
    simp
  · unfold bt
    rw [Int.toNat_natCast, e, low_bits, decide_eq_false (by omega), decide_eq_false (by omega)]
    rfl
def bcount (x : Int) : Int := (bAnd (((bAnd (((bAnd (x - (bAnd (bUshr x 1) 1431655765)) 858993459) + (bAnd (bUshr (x - (bAnd (bUshr x 1) 1431655765)) 2) 858993459)) + (bUshr ((bAnd (x - (bAnd (bUshr x 1) 1431655765)) 858993459) + (bAnd (bUshr (x - (bAnd (bUshr x 1) 1431655765)) 2) 858993459)) 4)) 252645135) + (bUshr (bAnd (((bAnd (x - (bAnd (bUshr x 1) 1431655765)) 858993459) + (bAnd (bUshr (x - (bAnd (bUshr x 1) 1431655765)) 2) 858993459)) + (bUshr ((bAnd (x - (bAnd (bUshr x 1) 1431655765)) 858993459) + (bAnd (bUshr (x - (bAnd (bUshr x 1) 1431655765)) 2) 858993459)) 4)) 252645135) 8)) + (bUshr ((bAnd (((bAnd (x - (bAnd (bUshr x 1) 1431655765)) 858993459) + (bAnd (bUshr (x - (bAnd (bUshr x 1) 1431655765)) 2) 858993459)) + (bUshr ((bAnd (x - (bAnd (bUshr x 1) 1431655765)) 858993459) + (bAnd (bUshr (x - (bAnd (bUshr x 1) 1431655765)) 2) 858993459)) 4)) 252645135) + (bUshr (bAnd (((bAnd (x - (bAnd (bUshr x 1) 1431655765)) 858993459) + (bAnd (bUshr (x - (bAnd (bUshr x 1) 1431655765)) 2) 858993459)) + (bUshr ((bAnd (x - (bAnd (bUshr x 1) 1431655765)) 858993459) + (bAnd (bUshr (x - (bAnd (bUshr x 1) 1431655765)) 2) 858993459)) 4)) 252645135) 8)) 16)) 63)
theorem c_bitCount {fr : Nat} {l : Int} {h : AH} : Sp mJ6_bitCount_0f7a4 true fr 0 0 [zI l] 137 h (rI (fun x h' => h' = h ∧ x = bcount l)) := by
  refine Sp.mk yJ6_bitCount_0f7a4_ok rfl rfl ?_
  exact bJ6_bitCount_0f7a4_0 (hq := ⟨_, rfl, rfl, rfl, rfl⟩)
theorem bcount_ones : ∀ k : Fin 20, bcount (2 ^ k.val - 1) = k.val := by decide
theorem c_lowestBit {fr : Nat} {l : Int} {h : AH} (hf : 1 ≤ fr) (l0 : 0 < l) (l1 : l < 1048576) : Sp mX11_lowestBit true fr 0 0 [zI l] 137 h (rI (fun x h' => h' = h ∧ lowOf l x)) := by
  refine Sp.mk yX11_lowestBit_ok rfl rfl ?_
  obtain ⟨k, e, hk⟩ := low_mask l0 (show l < 2147483648 by omega)
  have k20 : (k : Int) < (20 : Nat) := hk.lt (show l < 2 ^ 20 by omega)
  refine bX11_lowestBit_0 (hS := c_bitCount) (kk := ?_)
  rintro x h1 ⟨rfl, hx⟩
  rw [e] at hx
  have hx : x = (k : Int) := hx.trans (bcount_ones ⟨k, by omega⟩)
  subst hx
  exact bX11_lowestBit_9 (hq := ⟨_, rfl, rfl, rfl, hk⟩)
