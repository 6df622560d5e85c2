/-! ===== masks of 16 bits; the best code, by words ===== -/
def m16 (x : Int) : Prop := 0 ≤ x ∧ x < 65536
theorem bt_hi {x : Int} (h : m16 x) {j : Nat} (hj : 16 ≤ j) : bt x j = false := by
  unfold bt
  apply Nat.testBit_lt_two_pow
  have : 2 ^ 16 ≤ 2 ^ j := Nat.pow_le_pow_right (by decide) hj
  have := h.2
  have := h.1
  omega
theorem m16_nat {x : Int} (h : m16 x) : ∃ m : Nat, m < 65536 ∧ x = m := ⟨x.toNat, by have := h.1; have := h.2; omega, by have := h.1; omega⟩
theorem and16 {x y : Int} (hx : m16 x) (hy : m16 y) : m16 (bAnd x y) ∧ ∀ j, bt (bAnd x y) j = (bt x j && bt y j) := by
  obtain ⟨m, hm, rfl⟩ := m16_nat hx
  obtain ⟨n, hn, rfl⟩ := m16_nat hy
  have hle : m &&& n ≤ m := Nat.and_le_left
  rw [bAnd_nat (by omega)]
  refine ⟨⟨by omega, by omega⟩, fun j => ?_⟩
  unfold bt
  rw [Int.toNat_natCast, Int.toNat_natCast, Int.toNat_natCast, Nat.testBit_and]
theorem or16 {x y : Int} (hx : m16 x) (hy : m16 y) : m16 (bOr x y) ∧ ∀ j, bt (bOr x y) j = (bt x j || bt y j) := by
  obtain ⟨m, hm, rfl⟩ := m16_nat hx
  obtain ⟨n, hn, rfl⟩ := m16_nat hy
  have hlt : m ||| n < 2 ^ 16 := Nat.or_lt_two_pow (by omega) (by omega)
  rw [bOr_nat (by omega)]
  refine ⟨⟨by omega, by omega⟩, fun j => ?_⟩
  unfold bt
  rw [Int.toNat_natCast, Int.toNat_natCast, Int.toNat_natCast, Nat.testBit_or]
theorem andNot16 {x y : Int} (hx : m16 x) (hy : m16 y) : m16 (bAnd x (bXor y (-1))) ∧ ∀ j, bt (bAnd x (bXor y (-1))) j = (bt x j && !bt y j) := by
  obtain ⟨m, hm, rfl⟩ := m16_nat hx
  obtain ⟨n, hn, rfl⟩ := m16_nat hy
  have hle : m &&& (n ^^^ (2 ^ 16 - 1)) ≤ m := Nat.and_le_left
  have e : bAnd (m : Int) (bXor (n : Int) (-1)) = ((m &&& (n ^^^ (2 ^ 16 - 1)) : Nat) : Int) := by
    unfold bAnd bXor
    rw [ofI, ← nI_toInt (show m &&& (n ^^^ (2 ^ 16 - 1)) < 2 ^ 31 by omega)]
    congr 1
    apply Int32.toBitVec_inj.mp
    show BitVec.ofNat 32 m &&& (BitVec.ofNat 32 n ^^^ BitVec.ofInt 32 (-1)) = BitVec.ofNat 32 (m &&& (n ^^^ (2 ^ 16 - 1)))
    rw [show BitVec.ofInt 32 (-1) = BitVec.allOnes 32 by decide]
    apply BitVec.eq_of_getLsbD_eq
    intro i hi
    rw [BitVec.getLsbD_and, BitVec.getLsbD_xor, BitVec.getLsbD_ofNat, BitVec.getLsbD_ofNat, BitVec.getLsbD_ofNat, BitVec.getLsbD_allOnes, Nat.testBit_and, Nat.testBit_xor, Nat.testBit_two_pow_sub_one]
    rw [decide_eq_true hi]
    by_cases c : i < 16
    · rw [decide_eq_true c]
      simp
    · have : m.testBit i = false := Nat.testBit_lt_two_pow (Nat.lt_of_lt_of_le (show m < 2 ^ 16 by omega) (Nat.pow_le_pow_right (by decide) (by omega)))
      rw [this]
      simp
  rw [e]
  refine ⟨⟨by omega, by omega⟩, fun j => ?_⟩
  unfold bt
  rw [Int.toNat_natCast, Int.toNat_natCast, Int.toNat_natCast, Nat.testBit_and, Nat.testBit_xor, Nat.testBit_two_pow_sub_one]
  by_cases c : j < 16
  · rw [decide_eq_true c]
    simp
  · have : m.testBit j = false := Nat.testBit_lt_two_pow (Nat.lt_of_lt_of_le (show m < 2 ^ 16 by omega) (Nat.pow_le_pow_right (by decide) (by omega)))
    rw [this]
    simp
theorem one16 {s : Int} (s0 : 0 ≤ s) (s1 : s < 16) : m16 (1 * 2 ^ s.toNat) ∧ ∀ j, bt (1 * 2 ^ s.toNat) j = decide (j = s.toNat) := by
  have hp : 2 ^ s.toNat < 2 ^ 16 := Nat.pow_lt_pow_right (by decide) (by omega)
  rw [Int.one_mul, pow_nat]
  generalize hP : (2 ^ s.toNat : Nat) = P at hp ⊢
  refine ⟨⟨by omega, by omega⟩, fun j => ?_⟩
  unfold bt
  rw [Int.toNat_natCast, ← hP, Nat.testBit_two_pow]
  by_cases e : s.toNat = j
  · rw [decide_eq_true e, decide_eq_true e.symm]
  · rw [decide_eq_false e, decide_eq_false (Ne.symm e)]
theorem zero16 {x : Int} (hx : m16 x) : x = 0 ↔ ∀ j, bt x j = false := by
  constructor
  · rintro rfl j
    exact bt_zero j
  · intro h
    exact bt_ext hx.1 (by decide) (fun j => by rw [h, bt_zero])
theorem bit_lt {x : Int} (hx : m16 x) {j : Nat} (h : bt x j = true) : j < 16 := by
  by_cases c : j < 16
  · exact c
  · rw [bt_hi hx (by omega)] at h; cases h
def pop16 (x : Int) : Int := cnt (fun j => bt x j) 16
def sumM (x : Int) : Int := sg (fun j : Nat => if bt x j = true then (j : Int) + 2 else 0) 16
theorem pop_16 {x : Int} (hx : m16 x) : pop x 31 = pop16 x := by
  show cnt (fun j => bt x j) (16 + 15) = _
  rw [cnt_add]
  have : cnt (fun i => bt x (16 + i)) 15 = 0 := sg_zero (fun i _ => by simp only [bt_hi hx (show 16 ≤ 16 + i by omega)]; rfl)
  rw [this, Int.add_zero]
  rfl
theorem pop16_rng (x : Int) : 0 ≤ pop16 x ∧ pop16 x ≤ 16 := cnt_rng _ 16
theorem sumM_rng (x : Int) : 0 ≤ sumM x ∧ sumM x ≤ 16 * 17 := by
  have := sg_rng (f := fun j : Nat => if bt x j = true then (j : Int) + 2 else 0) (B := 17) (n := 16) (fun i hi => by
    split
    · omega
    · decide)
  exact this
/-- no two of the set fall together -/
def ind (T : Int → Int) (y : Int) : Prop := ∀ a b : Nat, bt y a = true → bt y b = true → bt (T a) b = false
def leB (y b : Int) : Prop := pop16 y < pop16 b ∨ (pop16 y = pop16 b ∧ (sumM b < sumM y ∨ (sumM y = sumM b ∧ b ≤ y)))
theorem leB.rf (y : Int) : leB y y := Or.inr ⟨rfl, Or.inr ⟨rfl, Int.le_refl _⟩⟩
theorem leB.tr {x y z : Int} (h1 : leB x y) (h2 : leB y z) : leB x z := by unfold leB at *; omega
theorem leB.one {x y : Int} (h1 : leB x y) (h2 : leB y x) : x = y := by unfold leB at *; omega
def bestR (T : Int → Int) (b : Int) : Prop := m16 b ∧ ind T b ∧ ∀ y, m16 y → ind T y → leB y b
theorem bestR.one {T U : Int → Int} {x y : Int} (e : ∀ a : Nat, a < 16 → T a = U a) (h1 : bestR T x) (h2 : bestR U y) : x = y := by
  have tu : ∀ z, m16 z → (ind T z ↔ ind U z) := fun z hz => by
    unfold ind
    constructor
    · intro h a b p q; rw [← e a (bit_lt hz p)]; exact h a b p q
    · intro h a b p q; rw [e a (bit_lt hz p)]; exact h a b p q
  exact leB.one (h2.2.2 x h1.1 ((tu x h1.1).mp h1.2.1)) (h1.2.2 y h2.1 ((tu y h2.1).mpr h2.2.1))
def symT (T : Int → Int) : Prop := (∀ a : Nat, a < 16 → m16 (T a)) ∧ ∀ a b : Nat, a < 16 → b < 16 → (bt (T a) b = bt (T b) a ∧ bt (T a) a = false)
/-- what is left may be added to what is taken -/
def canT (T : Int → Int) (left taken : Int) : Prop := m16 left ∧ m16 taken ∧ ind T taken ∧ (∀ j, bt left j = true → bt taken j = false) ∧ ∀ a j : Nat, bt taken a = true → bt left j = true → bt (T a) j = false
def inIS (T : Int → Int) (left taken y : Int) : Prop := m16 y ∧ ind T y ∧ (∀ j, bt taken j = true → bt y j = true) ∧ ∀ j, bt y j = true → bt taken j = true ∨ bt left j = true
theorem sg_le {f g : Nat → Int} : ∀ {n : Nat}, (∀ i, i < n → f i ≤ g i) → sg f n ≤ sg g n
  | 0, _ => Int.le_refl _
  | n + 1, h => by
    have a := sg_le (n := n) (fun i hi => h i (by omega))
    have b := h n (by omega)
    rw [sg, sg]
    omega
theorem pop16_le {x y z : Int} (h : ∀ j, bt x j = true → bt y j = true ∨ bt z j = true) : pop16 x ≤ pop16 y + pop16 z := by
  unfold pop16 cnt
  rw [← sg_add]
  refine sg_le (fun i _ => ?_)
  have := h i
  by_cases a : bt x i = true
  · rcases this a with b | b
    · rw [if_pos a, if_pos b]; split <;> omega
    · rw [if_pos a, if_pos b]; split <;> omega
  · rw [if_neg a]
    split <;> split <;> omega
/-- one bit more -/
theorem add16 {x s : Int} (hx : m16 x) (s0 : 0 ≤ s) (s1 : s < 16) (hb : bt x s.toNat = false) : pop16 (bOr x (1 * 2 ^ s.toNat)) = pop16 x + 1 ∧ sumM (bOr x (1 * 2 ^ s.toNat)) = sumM x + (s + 2) := by
  obtain ⟨o1, o2⟩ := one16 s0 s1
  obtain ⟨q1, q2⟩ := or16 hx o1
  constructor
  · unfold pop16 cnt
    rw [sg_cong (g := fun j : Nat => (if bt x j = true then 1 else 0) + (if j = s.toNat then 1 else 0)) (fun j _ => ?_), sg_add, sg_one, if_pos (by omega)]
    simp only [q2, o2]
    by_cases e : j = s.toNat
    · rw [e, hb]; simp
    · simp [e]
  · unfold sumM
    rw [sg_cong (g := fun j : Nat => (if bt x j = true then (j : Int) + 2 else 0) + (if j = s.toNat then s + 2 else 0)) (fun j _ => ?_), sg_add, sg_one, if_pos (by omega)]
    rw [q2, o2]
    by_cases e : j = s.toNat
    · rw [e, hb]
      simp
      omega
    · simp [e]
theorem drop16 {l x : Int} (hl : m16 l) (l0 : 0 < l) (hx : lowOf l x) : m16 (bAnd l (l - 1)) ∧ (∀ j, bt (bAnd l (l - 1)) j = (bt l j && decide ((j : Int) ≠ x))) ∧ bAnd l (l - 1) < l ∧ sumM l = sumM (bAnd l (l - 1)) + (x + 2) := by
  have l1 := hl.2
  obtain ⟨d1, d2⟩ := bit_drop l0 (by omega) hx
  have hx16 : x < (16 : Nat) := hx.lt (show l < 2 ^ 16 by omega)
  have x0 := hx.1
  refine ⟨⟨d1.1, by omega⟩, d2, d1.2, ?_⟩
  unfold sumM
  rw [sg_cong (f := fun j : Nat => if bt l j = true then (j : Int) + 2 else 0) (g := fun j : Nat => (if bt (bAnd l (l - 1)) j = true then (j : Int) + 2 else 0) + (if j = x.toNat then x + 2 else 0)) (fun j _ => ?_), sg_add, sg_one, if_pos (by omega)]
  rw [d2]
  by_cases e : (j : Int) = x
  · have e' : j = x.toNat := by omega
    rw [e', hx.2.1]
    simp
    omega
  · have e' : ¬ j = x.toNat := by omega
    simp [e, e']
