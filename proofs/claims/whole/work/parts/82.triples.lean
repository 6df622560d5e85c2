/-! ===== sets of at most three of twenty: words ===== -/
def m20 (x : Int) : Prop := 0 ≤ x ∧ x < 1048576
theorem bt_hi20 {x : Int} (h : m20 x) {j : Nat} (hj : 20 ≤ j) : bt x j = false := by
  unfold bt
  apply Nat.testBit_lt_two_pow
  have : 2 ^ 20 ≤ 2 ^ j := Nat.pow_le_pow_right (by decide) hj
  have := h.2
  have := h.1
  omega
theorem bit_lt20 {x : Int} (hx : m20 x) {j : Nat} (h : bt x j = true) : j < 20 := by
  by_cases c : j < 20
  · exact c
  · rw [bt_hi20 hx (by omega)] at h; cases h
theorem m20_nat {x : Int} (h : m20 x) : ∃ m : Nat, m < 1048576 ∧ x = m := ⟨x.toNat, by have := h.1; have := h.2; omega, by have := h.1; omega⟩
theorem and20 {x y : Int} (hx : m20 x) (hy : m20 y) : m20 (bAnd x y) ∧ ∀ j, bt (bAnd x y) j = (bt x j && bt y j) := by
  obtain ⟨m, hm, rfl⟩ := m20_nat hx
  obtain ⟨n, hn, rfl⟩ := m20_nat hy
  have hle : m &&& n ≤ m := Nat.and_le_left
  rw [bAnd_nat (by omega)]
  refine ⟨⟨by omega, by omega⟩, fun j => ?_⟩
  unfold bt
  rw [Int.toNat_natCast, Int.toNat_natCast, Int.toNat_natCast, Nat.testBit_and]
theorem or20 {x y : Int} (hx : m20 x) (hy : m20 y) : m20 (bOr x y) ∧ ∀ j, bt (bOr x y) j = (bt x j || bt y j) := by
  obtain ⟨m, hm, rfl⟩ := m20_nat hx
  obtain ⟨n, hn, rfl⟩ := m20_nat hy
  have hlt : m ||| n < 2 ^ 20 := Nat.or_lt_two_pow (by omega) (by omega)
  rw [bOr_nat (by omega)]
  refine ⟨⟨by omega, by omega⟩, fun j => ?_⟩
  unfold bt
  rw [Int.toNat_natCast, Int.toNat_natCast, Int.toNat_natCast, Nat.testBit_or]
theorem and_m1 {y : Int} (hy : m20 y) : bAnd (-1) y = y := by
  obtain ⟨n, hn, rfl⟩ := m20_nat hy
  unfold bAnd
  refine Eq.trans (congrArg Int32.toInt (a₂ := nI n) ?_) (nI_toInt (show n < 2 ^ 31 by omega))
  apply Int32.toBitVec_inj.mp
  show BitVec.ofInt 32 (-1) &&& BitVec.ofNat 32 n = BitVec.ofNat 32 n
  rw [show BitVec.ofInt 32 (-1) = BitVec.allOnes 32 by decide, BitVec.allOnes_and]
theorem lt_bits {x y i : Nat} (p : x.testBit i = false) (q : y.testBit i = true) (r : ∀ j, i < j → x.testBit j = y.testBit j) : x < y := by
  have e : x / 2 ^ (i + 1) = y / 2 ^ (i + 1) := Nat.eq_of_testBit_eq (fun j => by
    rw [Nat.testBit_div_two_pow, Nat.testBit_div_two_pow]
    exact r _ (by omega))
  rw [Nat.pow_succ, ← Nat.div_div_eq_div_mul, ← Nat.div_div_eq_div_mul] at e
  rw [Nat.testBit_eq_decide_div_mod_eq] at p q
  have p' := of_decide_eq_false p
  have q' := of_decide_eq_true q
  have l : x / 2 ^ i < y / 2 ^ i := by omega
  exact Nat.lt_of_div_lt_div l
def tri (a b c : Int) : Prop := (0 ≤ a ∧ a ≤ 20) ∧ (0 ≤ b ∧ b < max 1 a) ∧ 0 ≤ c ∧ c < max 1 b
def isT (y a b c : Int) : Prop := m20 y ∧ ∀ j : Nat, bt y j = true ↔ ((j : Int) + 1 = a ∨ (j : Int) + 1 = b ∨ (j : Int) + 1 = c)
def lx (a b c a' b' c' : Int) : Prop := a < a' ∨ (a = a' ∧ (b < b' ∨ (b = b' ∧ c < c')))
theorem isT.no {y a b c : Int} (h : isT y a b c) {j : Nat} (hn : ¬ ((j : Int) + 1 = a ∨ (j : Int) + 1 = b ∨ (j : Int) + 1 = c)) : bt y j = false := by
  cases e : bt y j with
  | false => rfl
  | true => exact absurd ((h.2 j).mp e) hn
theorem isT.lt {y y' a b c a' b' c' : Int} (t1 : tri a b c) (t2 : tri a' b' c') (h1 : isT y a b c) (h2 : isT y' a' b' c') (hl : lx a b c a' b' c') : y < y' := by
  have key : ∀ i : Nat, bt y i = false → bt y' i = true → (∀ j, i < j → bt y j = bt y' j) → y < y' := fun i p q r => by
    have := lt_bits (x := y.toNat) (y := y'.toNat) (i := i) p q r
    have := h1.1.1
    omega
  have same : ∀ j : Nat, (((j : Int) + 1 = a ∨ (j : Int) + 1 = b ∨ (j : Int) + 1 = c) ↔ ((j : Int) + 1 = a' ∨ (j : Int) + 1 = b' ∨ (j : Int) + 1 = c')) → bt y j = bt y' j := fun j e => by
    by_cases z : (j : Int) + 1 = a ∨ (j : Int) + 1 = b ∨ (j : Int) + 1 = c
    · rw [(h1.2 j).mpr z, (h2.2 j).mpr (e.mp z)]
    · rw [h1.no z, h2.no (fun w => z (e.mpr w))]
  obtain ⟨⟨p1, p2⟩, ⟨p3, p4⟩, p5, p6⟩ := t1
  obtain ⟨⟨q1, q2⟩, ⟨q3, q4⟩, q5, q6⟩ := t2
  rcases hl with l | ⟨e, l | ⟨e2, l⟩⟩
  · refine key (a' - 1).toNat (h1.no (by omega)) ((h2.2 _).mpr (Or.inl (by omega))) (fun j hj => same j (by omega))
  · refine key (b' - 1).toNat (h1.no (by omega)) ((h2.2 _).mpr (Or.inr (Or.inl (by omega)))) (fun j hj => same j (by omega))
  · refine key (c' - 1).toNat (h1.no (by omega)) ((h2.2 _).mpr (Or.inr (Or.inr (by omega)))) (fun j hj => same j (by omega))
theorem isT.one {y z a b c : Int} (h1 : isT y a b c) (h2 : isT z a b c) : y = z := by
  refine bt_ext h1.1.1 h2.1.1 (fun j => ?_)
  by_cases w : (j : Int) + 1 = a ∨ (j : Int) + 1 = b ∨ (j : Int) + 1 = c
  · rw [(h1.2 j).mpr w, (h2.2 j).mpr w]
  · rw [h1.no w, h2.no w]
theorem isT.tri_one {y a b c a' b' c' : Int} (t1 : tri a b c) (t2 : tri a' b' c') (h1 : isT y a b c) (h2 : isT y a' b' c') : a = a' ∧ b = b' ∧ c = c' := by
  by_cases l : lx a b c a' b' c'
  · have := isT.lt t1 t2 h1 h2 l; omega
  · by_cases l2 : lx a' b' c' a b c
    · have := isT.lt t2 t1 h2 h1 l2; omega
    · unfold lx at l l2; omega
def nz (a b c : Int) : Int := (if a = 0 then 0 else 1) + (if b = 0 then 0 else 1) + (if c = 0 then 0 else 1)
theorem pop_T {y a b c : Int} (t : tri a b c) (h : isT y a b c) : pop y 31 = nz a b c := by
  obtain ⟨⟨p1, p2⟩, ⟨p3, p4⟩, p5, p6⟩ := t
  have one : ∀ x : Int, 0 ≤ x → x ≤ 20 → sg (fun j : Nat => if j = (x - 1).toNat then (if x = 0 then 0 else 1) else 0) 31 = if x = 0 then 0 else 1 := fun x a b => by rw [sg_one, if_pos (by omega)]
  unfold nz
  rw [← one a p1 p2, ← one b p3 (by omega), ← one c p5 (by omega), ← sg_add, ← sg_add]
  refine sg_cong (fun j hj => ?_)
  have ind : ∀ x : Int, 0 ≤ x → (if j = (x - 1).toNat then (if x = 0 then 0 else 1) else 0) = (if (j : Int) + 1 = x then (1 : Int) else 0) := fun x a => by
    by_cases e : (j : Int) + 1 = x
    · rw [if_pos e, if_pos (by omega), if_neg (by omega)]
    · rw [if_neg e]
      by_cases e2 : j = (x - 1).toNat
      · rw [if_pos e2, if_pos (by omega)]
      · rw [if_neg e2]
  rw [ind a p1, ind b p3, ind c p5]
  by_cases z : (j : Int) + 1 = a ∨ (j : Int) + 1 = b ∨ (j : Int) + 1 = c
  · rw [if_pos ((h.2 j).mpr z)]
    rcases z with z | z | z
    · rw [if_pos z, if_neg (by omega), if_neg (by omega)]; rfl
    · rw [if_neg (by omega), if_pos z, if_neg (by omega)]; rfl
    · rw [if_neg (by omega), if_neg (by omega), if_pos z]; rfl
  · rw [if_neg (by show ¬ bt y j = true; rw [h.no z]; decide), if_neg (by omega), if_neg (by omega), if_neg (by omega)]; rfl
theorem low_ex {y : Int} (hy : m20 y) (y0 : 0 < y) : ∃ x, lowOf y x := by
  obtain ⟨k, -, h⟩ := low_mask y0 (by have := hy.2; omega)
  exact ⟨_, h⟩
theorem drop20 {y x : Int} (hy : m20 y) (y0 : 0 < y) (hx : lowOf y x) : m20 (bAnd y (y - 1)) ∧ (∀ j, bt (bAnd y (y - 1)) j = (bt y j && decide ((j : Int) ≠ x))) ∧ pop (bAnd y (y - 1)) 31 = pop y 31 - 1 := by
  have h2 := hy.2
  obtain ⟨d1, d2⟩ := bit_drop y0 (by omega) hx
  have x0 := hx.1
  have x20 : x < (20 : Nat) := hx.lt (show y < 2 ^ 20 by omega)
  refine ⟨⟨d1.1, by omega⟩, d2, ?_⟩
  have : pop y 31 = pop (bAnd y (y - 1)) 31 + 1 := by
    unfold pop cnt
    rw [sg_cong (f := fun i => if bt y i = true then 1 else 0) (g := fun j : Nat => (if bt (bAnd y (y - 1)) j = true then 1 else 0) + (if j = x.toNat then 1 else 0)) (fun j _ => ?_), sg_add, sg_one, if_pos (by omega)]
    rw [d2]
    by_cases e : (j : Int) = x
    · have e' : j = x.toNat := by omega
      rw [e', hx.2.1]
      simp
      omega
    · have e' : ¬ j = x.toNat := by omega
      simp [e, e']
  omega
theorem pop_0 {y : Int} (hy : m20 y) (h : pop y 31 ≤ 0) : y = 0 := by
  refine bt_ext hy.1 (by decide) (fun j => ?_)
  rw [bt_zero]
  cases e : bt y j with
  | false => rfl
  | true =>
    have := cnt_pos (p := fun j => bt y j) (n := 31) (y := j) (by have := bit_lt20 hy e; omega) e
    unfold pop at h
    omega
theorem tri_ex {y : Int} (hy : m20 y) (hp : pop y 31 ≤ 3) : ∃ a b c, tri a b c ∧ isT y a b c := by
  by_cases e0 : y = 0
  · refine ⟨0, 0, 0, by unfold tri; omega, hy, fun j => ?_⟩
    rw [e0, bt_zero]
    constructor
    · intro z; cases z
    · intro z; omega
  have y0 : 0 < y := by have := hy.1; omega
  obtain ⟨x0, h0⟩ := low_ex hy y0
  obtain ⟨m1, b1, p1⟩ := drop20 hy y0 h0
  have l0 : x0 < (20 : Nat) := h0.lt (show y < 2 ^ 20 by have := hy.2; omega)
  have i0 := h0.1
  generalize bAnd y (y - 1) = y1 at m1 b1 p1
  have bit : ∀ j : Nat, bt y j = true ↔ ((j : Int) = x0 ∨ bt y1 j = true) := fun j => by
    rw [b1]
    by_cases e : (j : Int) = x0
    · have : j = x0.toNat := by omega
      rw [this, h0.2.1]; simp; omega
    · simp [e]
  by_cases e1 : y1 = 0
  · refine ⟨x0 + 1, 0, 0, by unfold tri; omega, hy, fun j => ?_⟩
    rw [bit, e1, bt_zero]
    constructor
    · rintro (z | z)
      · omega
      · cases z
    · intro z; exact Or.inl (by omega)
  have y10 : 0 < y1 := by have := m1.1; omega
  obtain ⟨x1, h1⟩ := low_ex m1 y10
  obtain ⟨m2, b2, p2⟩ := drop20 m1 y10 h1
  have l1 : x1 < (20 : Nat) := h1.lt (show y1 < 2 ^ 20 by have := m1.2; omega)
  have i1 := h1.1
  have x01 : x0 < x1 := by
    have q := h1.2.1
    rw [b1] at q
    have q2 : bt y x1.toNat = true ∧ decide (((x1.toNat : Nat) : Int) ≠ x0) = true := by simpa using q
    have q3 := of_decide_eq_true q2.2
    by_cases c : x1 < x0
    · have := h0.2.2 x1.toNat (by omega)
      rw [this] at q2
      cases q2.1
    · omega
  generalize bAnd y1 (y1 - 1) = y2 at m2 b2 p2
  have bit1 : ∀ j : Nat, bt y1 j = true ↔ ((j : Int) = x1 ∨ bt y2 j = true) := fun j => by
    rw [b2]
    by_cases e : (j : Int) = x1
    · have : j = x1.toNat := by omega
      rw [this, h1.2.1]; simp; omega
    · simp [e]
  by_cases e2 : y2 = 0
  · refine ⟨x1 + 1, x0 + 1, 0, by unfold tri; omega, hy, fun j => ?_⟩
    rw [bit, bit1, e2, bt_zero]
    constructor
    · rintro (z | z | z)
      · omega
      · omega
      · cases z
    · intro z; omega
  have y20 : 0 < y2 := by have := m2.1; omega
  obtain ⟨x2, h2⟩ := low_ex m2 y20
  obtain ⟨m3, b3, p3⟩ := drop20 m2 y20 h2
  have l2 : x2 < (20 : Nat) := h2.lt (show y2 < 2 ^ 20 by have := m2.2; omega)
  have i2 := h2.1
  have x12 : x1 < x2 := by
    have q := h2.2.1
    rw [b2] at q
    have q2 : bt y1 x2.toNat = true ∧ decide (((x2.toNat : Nat) : Int) ≠ x1) = true := by simpa using q
    have q3 := of_decide_eq_true q2.2
    by_cases c : x2 < x1
    · have := h1.2.2 x2.toNat (by omega)
      rw [this] at q2
      cases q2.1
    · omega
  have e3 : bAnd y2 (y2 - 1) = 0 := pop_0 m3 (by omega)
  rw [e3] at b3
  refine ⟨x2 + 1, x1 + 1, x0 + 1, by unfold tri; omega, hy, fun j => ?_⟩
  rw [bit, bit1]
  have bit2 : bt y2 j = true ↔ (j : Int) = x2 := by
    by_cases e : (j : Int) = x2
    · have : j = x2.toNat := by omega
      rw [this, h2.2.1]; simp; omega
    · have q := b3 j
      rw [bt_zero] at q
      simp [e] at q
      simp [e, q]
  rw [bit2]
  omega
/-- a triple's set, as it is laid together -/
theorem isT_mk {a b c : Int} (t : tri a b c) : isT (bOr (bOr ((1 * 2 ^ a.toNat) / 2 ^ (1 : Int).toNat) ((1 * 2 ^ b.toNat) / 2 ^ (1 : Int).toNat)) ((1 * 2 ^ c.toNat) / 2 ^ (1 : Int).toNat)) a b c := by
  have one : ∀ x : Int, 0 ≤ x → x ≤ 20 → m20 ((1 * 2 ^ x.toNat) / 2 ^ (1 : Int).toNat) ∧ ∀ j : Nat, bt ((1 * 2 ^ x.toNat) / 2 ^ (1 : Int).toNat) j = decide ((j : Int) + 1 = x) := fun x p q => by
    by_cases e : x = 0
    · subst e
      refine ⟨by constructor <;> decide, fun j => ?_⟩
      rw [show ((1 : Int) * 2 ^ (0 : Int).toNat) / 2 ^ (1 : Int).toNat = 0 by decide, bt_zero]
      exact (decide_eq_false (by omega)).symm
    · obtain ⟨k, hk⟩ : ∃ k : Nat, x.toNat = k + 1 := ⟨x.toNat - 1, by omega⟩
      have e2 : ((1 : Int) * 2 ^ x.toNat) / 2 ^ (1 : Int).toNat = ((2 ^ k : Nat) : Int) := by
        rw [hk, Int.one_mul, show (1 : Int).toNat = 1 by rfl, Int.pow_succ, pow_nat k]
        omega
      rw [e2]
      have hp : 2 ^ k < 2 ^ 20 := Nat.pow_lt_pow_right (by decide) (by omega)
      refine ⟨by generalize (2 ^ k : Nat) = K at hp; constructor <;> omega, fun j => ?_⟩
      unfold bt
      rw [Int.toNat_natCast, Nat.testBit_two_pow]
      by_cases e3 : k = j
      · rw [decide_eq_true e3, decide_eq_true (by omega)]
      · rw [decide_eq_false e3, decide_eq_false (by omega)]
  obtain ⟨⟨p1, p2⟩, ⟨p3, p4⟩, p5, p6⟩ := t
  obtain ⟨a1, a2⟩ := one a p1 p2
  obtain ⟨b1, b2⟩ := one b p3 (by omega)
  obtain ⟨c1, c2⟩ := one c p5 (by omega)
  obtain ⟨o1, o2⟩ := or20 a1 b1
  obtain ⟨o3, o4⟩ := or20 o1 c1
  refine ⟨o3, fun j => ?_⟩
  rw [o4, o2, a2, b2, c2]
  simp [or_assoc]
