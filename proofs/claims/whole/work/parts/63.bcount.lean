/-! ===== Integer.bitCount counts bits, for masks below 2^20 ===== -/
theorem bUshr_nat {m k : Nat} (hk : k = 1 ∨ k = 2 ∨ k = 4 ∨ k = 8 ∨ k = 16) (hm : m < 2 ^ 31) : bUshr (m : Int) (k : Int) = ((m / 2 ^ k : Nat) : Int) := by
  have e : (Int32.ofInt (k : Int)).toUInt32 &&& Int32.toUInt32 31 = UInt32.ofNat k := by
    rcases hk with rfl | rfl | rfl | rfl | rfl <;> decide
  unfold bUshr
  rw [e]
  have hn : ((Int32.ofInt (m : Int)).toUInt32 >>> UInt32.ofNat k).toNat = m / 2 ^ k := by
    rw [UInt32.toNat_shiftRight]
    have h1 : (Int32.ofInt (m : Int)).toUInt32.toNat = m := by
      show (BitVec.ofInt 32 (m : Int)).toNat = m
      rw [BitVec.toNat_ofInt]
      omega
    have h2 : (UInt32.ofNat k).toNat % 32 = k := by rcases hk with rfl | rfl | rfl | rfl | rfl <;> rfl
    rw [h1, h2, Nat.shiftRight_eq_div_pow]
  have hlt : m / 2 ^ k ≤ m := Nat.div_le_self _ _
  show BitVec.toInt (((Int32.ofInt (m : Int)).toUInt32 >>> UInt32.ofNat k).toBitVec) = _
  have hn' : (((Int32.ofInt (m : Int)).toUInt32 >>> UInt32.ofNat k).toBitVec).toNat = m / 2 ^ k := hn
  rw [BitVec.toInt_eq_toNat_of_lt (by rw [hn']; omega), hn']
theorem and_split {k a b c m : Nat} (ha : a < 2 ^ k) (hc : c < 2 ^ k) : (a + 2 ^ k * b) &&& (c + 2 ^ k * m) = (a &&& c) + 2 ^ k * (b &&& m) := by
  apply Nat.eq_of_testBit_eq
  intro j
  have hac : a &&& c < 2 ^ k := Nat.lt_of_le_of_lt Nat.and_le_left ha
  rw [Nat.testBit_and, Nat.add_comm a, Nat.add_comm c, Nat.add_comm (a &&& c), Nat.testBit_two_pow_mul_add _ ha, Nat.testBit_two_pow_mul_add _ hc, Nat.testBit_two_pow_mul_add _ hac]
  split <;> rw [Nat.testBit_and]
def pu (m x : Nat) : Nat := x - ((x / 2) &&& m)
def pv (m x : Nat) : Nat := (x &&& m) + ((x / 4) &&& m)
def pw (m x : Nat) : Nat := (x + x / 16) &&& m
theorem pu_le (m x : Nat) : (x / 2) &&& m ≤ x := Nat.le_trans Nat.and_le_left (Nat.div_le_self _ _)
theorem by_u : ∀ (a : Fin 256) (c : Fin 2), (a.val / 2 + 128 * c.val) &&& 85 = (a.val / 2) &&& 85 := by decide +kernel
theorem by_v : ∀ (a : Fin 256) (c : Fin 4), (a.val / 4 + 64 * c.val) &&& 51 = (a.val / 4) &&& 51 := by decide +kernel
theorem by_w : ∀ (a : Fin 69) (c : Fin 5), (a.val + a.val / 16 + 16 * c.val) &&& 15 = (a.val + a.val / 16) &&& 15 := by decide +kernel
theorem pu_split {a y m : Nat} (ha : a < 256) : pu (85 + 256 * m) (a + 256 * y) = pu 85 a + 256 * pu m y := by
  unfold pu
  have e : (a + 256 * y) / 2 = (a / 2 + 128 * (y % 2)) + 2 ^ 8 * (y / 2) := by omega
  have h := by_u ⟨a, ha⟩ ⟨y % 2, by omega⟩
  simp only at h
  rw [e, show 85 + 256 * m = 85 + 2 ^ 8 * m from rfl, and_split (by omega) (by decide), h]
  have h1 := pu_le 85 a
  have h2 := pu_le m y
  omega
theorem pv_split {a y m : Nat} (ha : a < 256) : pv (51 + 256 * m) (a + 256 * y) = pv 51 a + 256 * pv m y := by
  unfold pv
  have e : (a + 256 * y) / 4 = (a / 4 + 64 * (y % 4)) + 2 ^ 8 * (y / 4) := by omega
  have h := by_v ⟨a, ha⟩ ⟨y % 4, by omega⟩
  simp only at h
  rw [e, show 51 + 256 * m = 51 + 2 ^ 8 * m from rfl, and_split (by omega) (by decide), h, show a + 256 * y = a + 2 ^ 8 * y from rfl, and_split (by omega) (by decide)]
  omega
theorem pw_split {a y m : Nat} (ha : a < 69) (hy : y % 16 < 5) : pw (15 + 256 * m) (a + 256 * y) = pw 15 a + 256 * pw m y := by
  unfold pw
  have e : (a + 256 * y) + (a + 256 * y) / 16 = (a + a / 16 + 16 * (y % 16)) + 2 ^ 8 * (y + y / 16) := by omega
  have h := by_w ⟨a, ha⟩ ⟨y % 16, hy⟩
  simp only at h
  rw [e, show 15 + 256 * m = 15 + 2 ^ 8 * m from rfl, and_split (by omega) (by decide), h]
theorem byteN : ∀ a : Fin 256, pu 85 a.val < 256 ∧ pv 51 (pu 85 a.val) < 69 ∧ pv 51 (pu 85 a.val) % 16 < 5 ∧ pw 15 (pv 51 (pu 85 a.val)) ≤ 8 ∧ ((pw 15 (pv 51 (pu 85 a.val)) : Nat) : Int) = cnt (fun j => a.val.testBit j) 8 := by decide +kernel
theorem byteT : ∀ a : Fin 16, pu 21845 a.val = pu 85 a.val ∧ pv 13107 (pu 85 a.val) = pv 51 (pu 85 a.val) ∧ pw 3855 (pv 51 (pu 85 a.val)) = pw 15 (pv 51 (pu 85 a.val)) ∧ ((pw 15 (pv 51 (pu 85 a.val)) : Nat) : Int) = cnt (fun j => a.val.testBit j) 15 := by decide +kernel
theorem cnt_cong {p q : Nat → Bool} {n : Nat} (h : ∀ i, i < n → p i = q i) : cnt p n = cnt q n := sg_cong (fun i hi => by simp only [h i hi])
theorem cnt_add (p : Nat → Bool) (m n : Nat) : cnt p (m + n) = cnt p m + cnt (fun i => p (m + i)) n := sg_split _ m n
theorem pop_split {a y n : Nat} (ha : a < 256) : cnt (fun j => (a + 256 * y).testBit j) (8 + n) = cnt (fun j => a.testBit j) 8 + cnt (fun j => y.testBit j) n := by
  rw [cnt_add]
  have e : a + 256 * y = 2 ^ 8 * y + a := by omega
  congr 1
  · refine cnt_cong (fun j hj => ?_)
    rw [e, Nat.testBit_two_pow_mul_add _ (by omega), if_pos hj]
  · refine cnt_cong (fun j hj => ?_)
    rw [e, Nat.testBit_two_pow_mul_add _ (by omega), if_neg (by omega), show 8 + j - 8 = j by omega]
theorem and63 (x y : Nat) (hx : x < 64) : (x + 64 * y) &&& 63 = x := by
  have := and_split (k := 6) (a := x) (b := y) (c := 63) (m := 0) (by omega) (by decide)
  rw [Nat.and_zero, show (63 : Nat) + 2 ^ 6 * 0 = 63 from rfl] at this
  have e : x &&& 63 = x := by rw [show (63 : Nat) = 2 ^ 6 - 1 from rfl, Nat.and_two_pow_sub_one_eq_mod]; omega
  rw [show x + 64 * y = x + 2 ^ 6 * y from rfl, this, e]
  omega
theorem bcount_nat {m : Nat} (hm : m < 1048576) : bcount (m : Int) = pop (m : Int) 31 := by
  obtain ⟨a, b, c, ha, hb, hc, rfl⟩ : ∃ a b c : Nat, a < 256 ∧ b < 256 ∧ c < 16 ∧ m = a + 256 * (b + 256 * c) := ⟨m % 256, m / 256 % 256, m / 65536, by omega, by omega, by omega, by omega⟩
  obtain ⟨a1, a2, a3, a4, a5⟩ := byteN ⟨a, ha⟩
  obtain ⟨b1, b2, b3, b4, b5⟩ := byteN ⟨b, hb⟩
  obtain ⟨c1, c2, c3, c4, -⟩ := byteN ⟨c, by omega⟩
  obtain ⟨d1, d2, d3, d4⟩ := byteT ⟨c, hc⟩
  simp only at a1 a2 a3 a4 a5 b1 b2 b3 b4 b5 c1 c2 c3 c4 d1 d2 d3 d4
  have hp : pop ((a + 256 * (b + 256 * c) : Nat) : Int) 31 = ((pw 15 (pv 51 (pu 85 a)) + pw 15 (pv 51 (pu 85 b)) + pw 15 (pv 51 (pu 85 c)) : Nat) : Int) := by
    show cnt (fun j => (((a + 256 * (b + 256 * c) : Nat) : Int)).toNat.testBit j) (8 + (8 + 15)) = _
    rw [Int.toNat_natCast, pop_split ha, pop_split hb, ← a5, ← b5, ← d4]
    push_cast
    omega
  rw [hp]
  have u0 : pu 1431655765 (a + 256 * (b + 256 * c)) = pu 85 a + 256 * (pu 85 b + 256 * pu 85 c) := by
    rw [show (1431655765 : Nat) = 85 + 256 * (85 + 256 * 21845) from rfl, pu_split ha, pu_split hb, d1]
  have v0 : pv 858993459 (pu 85 a + 256 * (pu 85 b + 256 * pu 85 c)) = pv 51 (pu 85 a) + 256 * (pv 51 (pu 85 b) + 256 * pv 51 (pu 85 c)) := by
    rw [show (858993459 : Nat) = 51 + 256 * (51 + 256 * 13107) from rfl, pv_split a1, pv_split b1, d2]
  have w0 : pw 252645135 (pv 51 (pu 85 a) + 256 * (pv 51 (pu 85 b) + 256 * pv 51 (pu 85 c))) = pw 15 (pv 51 (pu 85 a)) + 256 * (pw 15 (pv 51 (pu 85 b)) + 256 * pw 15 (pv 51 (pu 85 c))) := by
    rw [show (252645135 : Nat) = 15 + 256 * (15 + 256 * 3855) from rfl, pw_split a2 (by omega), pw_split b2 c3, d3]
  have hmm : a + 256 * (b + 256 * c) < 1048576 := by omega
  revert u0 v0 w0 hmm
  generalize a + 256 * (b + 256 * c) = m
  generalize hU : pu 85 a + 256 * (pu 85 b + 256 * pu 85 c) = U
  generalize hV : pv 51 (pu 85 a) + 256 * (pv 51 (pu 85 b) + 256 * pv 51 (pu 85 c)) = V
  generalize pw 15 (pv 51 (pu 85 a)) = A at *
  generalize pw 15 (pv 51 (pu 85 b)) = B at *
  generalize pw 15 (pv 51 (pu 85 c)) = C at *
  intro u0 v0 w0 hmm
  have U1 : U < 16777216 := by omega
  have V1 : V < 16777216 := by omega
  unfold pu at u0
  unfold pv at v0
  unfold pw at w0
  have s1 : (m : Int) - bAnd (bUshr m 1) 1431655765 = (U : Int) := by
    have e1 := bUshr_nat (m := m) (k := 1) (Or.inl rfl) (by omega)
    rw [show ((1 : Nat) : Int) = 1 from rfl, show (2 : Nat) ^ 1 = 2 from rfl] at e1
    have hle := pu_le 1431655765 m
    rw [e1, show (1431655765 : Int) = ((1431655765 : Nat) : Int) from rfl, bAnd_nat (by omega), ← u0]
    omega
  have s2 : bAnd (U : Int) 858993459 + bAnd (bUshr U 2) 858993459 = (V : Int) := by
    have e1 := bUshr_nat (m := U) (k := 2) (Or.inr (Or.inl rfl)) (by omega)
    rw [show ((2 : Nat) : Int) = 2 from rfl, show (2 : Nat) ^ 2 = 4 from rfl] at e1
    have l1 : U &&& 858993459 ≤ U := Nat.and_le_left
    have l2 : U / 4 &&& 858993459 ≤ U / 4 := Nat.and_le_left
    rw [e1, show (858993459 : Int) = ((858993459 : Nat) : Int) from rfl, bAnd_nat (by omega), bAnd_nat (by omega), ← v0]
    omega
  have s3 : bAnd ((V : Int) + bUshr V 4) 252645135 = ((A + 256 * (B + 256 * C) : Nat) : Int) := by
    have e1 := bUshr_nat (m := V) (k := 4) (Or.inr (Or.inr (Or.inl rfl))) (by omega)
    rw [show ((4 : Nat) : Int) = 4 from rfl, show (2 : Nat) ^ 4 = 16 from rfl] at e1
    rw [e1, show (V : Int) + ((V / 16 : Nat) : Int) = ((V + V / 16 : Nat) : Int) by omega, show (252645135 : Int) = ((252645135 : Nat) : Int) from rfl, bAnd_nat (by rw [w0]; omega), w0]
  unfold bcount
  rw [s1, s2, s3]
  have e8 := bUshr_nat (m := A + 256 * (B + 256 * C)) (k := 8) (Or.inr (Or.inr (Or.inr (Or.inl rfl)))) (by omega)
  rw [show ((8 : Nat) : Int) = 8 from rfl, show (2 : Nat) ^ 8 = 256 from rfl] at e8
  rw [e8, show ((A + 256 * (B + 256 * C) : Nat) : Int) + (((A + 256 * (B + 256 * C)) / 256 : Nat) : Int) = (((A + B) + 256 * (B + C) + 65536 * C : Nat) : Int) by omega]
  have e16 := bUshr_nat (m := (A + B) + 256 * (B + C) + 65536 * C) (k := 16) (Or.inr (Or.inr (Or.inr (Or.inr rfl)))) (by omega)
  rw [show ((16 : Nat) : Int) = 16 from rfl, show (2 : Nat) ^ 16 = 65536 from rfl] at e16
  rw [e16, show (((A + B) + 256 * (B + C) + 65536 * C : Nat) : Int) + ((((A + B) + 256 * (B + C) + 65536 * C) / 65536 : Nat) : Int) = (((A + B + C) + 64 * (4 * (B + C) + 1024 * C) : Nat) : Int) by omega, show (63 : Int) = ((63 : Nat) : Int) from rfl]
  have e63 := and63 (A + B + C) (4 * (B + C) + 1024 * C) (by omega)
  rw [bAnd_nat (by rw [e63]; omega), e63]
theorem bcount_pop {x : Int} (x0 : 0 ≤ x) (x1 : x < 1048576) : bcount x = pop x 31 := by
  obtain ⟨m, rfl⟩ : ∃ m : Nat, x = m := ⟨x.toNat, by omega⟩
  exact bcount_nat (by omega)
theorem c_bits {fr : Nat} {l : Int} {h : AH} (l0 : 0 ≤ l) (l1 : l < 1048576) : Sp mJ6_bitCount_0f7a4 true fr 0 0 [zI l] 137 h (rI (fun x h' => h' = h ∧ x = pop l 31)) :=
  c_bitCount.weak (fun r n h' z => by
    obtain ⟨x, e1, e2, e3, e4⟩ := z
    exact ⟨x, e1, e2, e3, by rw [e4, bcount_pop l0 l1]⟩)
