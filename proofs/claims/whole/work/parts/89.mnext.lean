/-! ===== the model: next0 ===== -/
def stp : Nat → Nat → Nat
  | 0, x => x
  | f + 1, x => if x % 2 = 0 then stp f (x / 2) else x
def bln : Nat → Nat → Nat
  | 0, _ => 0
  | f + 1, x => if x = 0 then 0 else bln f (x / 2) + 1
def gup (x : Nat) : Nat := x + (x &&& (4294967296 - x))
def gos (x : Nat) : Nat := gup x ||| (2 ^ (bln 32 (stp 32 (x ^^^ gup x)) - 2) - 1)
def pw1 (k : Nat) : Nat := if k = 0 then 0 else 2 ^ (k - 1)
def vT (a b c : Nat) : Nat := (pw1 a ||| pw1 b) ||| pw1 c
def nxT (a b c : Nat) : Nat × Nat × Nat := if c ≠ 0 then (if c + 1 < b then (a, b, c + 1) else if b + 1 < a then (a, b + 1, 1) else (a + 1, 2, 1)) else if b ≠ 0 then (if b + 1 < a then (a, b + 1, 0) else (a + 1, 1, 0)) else (a + 1, 0, 0)
def rkT (a b c : Nat) : Nat := if c ≠ 0 then 211 + (a - 1) * (a - 2) * (a - 3) / 6 + (b - 1) * (b - 2) / 2 + (c - 1) else if b ≠ 0 then 21 + (a - 1) * (a - 2) / 2 + (b - 1) else if a ≠ 0 then a else 0
def rkE (a b c : Nat) : Nat := if c ≠ 0 then 1351 else if b ≠ 0 then 211 else if a ≠ 0 then 21 else 1
set_option maxRecDepth 100000 in
theorem gos_all : ∀ a b c : Fin 21, 0 < a.val → b.val < a.val → (b.val = 0 → c.val = 0) → (b.val ≠ 0 → c.val < b.val) → (stp 32 (vT a.val b.val c.val ^^^ gup (vT a.val b.val c.val)) % 2 = 1 ∧ stp 32 (vT a.val b.val c.val ^^^ gup (vT a.val b.val c.val)) < 4294967296 ∧ 2 ≤ bln 32 (stp 32 (vT a.val b.val c.val ^^^ gup (vT a.val b.val c.val))) ∧ bln 32 (stp 32 (vT a.val b.val c.val ^^^ gup (vT a.val b.val c.val))) ≤ 24 ∧ vT a.val b.val c.val ^^^ gup (vT a.val b.val c.val) < 4194304 ∧ gup (vT a.val b.val c.val) < 4194304 ∧ gos (vT a.val b.val c.val) < 4194304) ∧ gos (vT a.val b.val c.val) = vT (nxT a.val b.val c.val).1 (nxT a.val b.val c.val).2.1 (nxT a.val b.val c.val).2.2 ∧ rkT (nxT a.val b.val c.val).1 (nxT a.val b.val c.val).2.1 (nxT a.val b.val c.val).2.2 = rkT a.val b.val c.val + 1 ∧ rkT a.val b.val c.val < rkE a.val b.val c.val := by decide +kernel
theorem pw1_bit (k j : Nat) : (pw1 k).testBit j = decide (j + 1 = k) := by
  unfold pw1
  by_cases e : k = 0
  · rw [if_pos e, Nat.zero_testBit, decide_eq_false (by omega)]
  · rw [if_neg e, Nat.testBit_two_pow]
    by_cases e2 : k - 1 = j
    · rw [decide_eq_true e2, decide_eq_true (by omega)]
    · rw [decide_eq_false e2, decide_eq_false (by omega)]
theorem pw1_lt {k N : Nat} (h : k ≤ N) : pw1 k < 2 ^ N := by
  unfold pw1
  split
  · exact Nat.pow_pos (by decide)
  · exact Nat.pow_lt_pow_right (by decide) (by omega)
theorem vT_bit (a b c j : Nat) : (vT a b c).testBit j = true ↔ (j + 1 = a ∨ j + 1 = b ∨ j + 1 = c) := by
  unfold vT
  rw [Nat.testBit_or, Nat.testBit_or, pw1_bit, pw1_bit, pw1_bit]
  simp [or_assoc]
theorem vT_isT {a b c : Nat} (ha : a ≤ 20) (hb : b ≤ 20) (hc : c ≤ 20) : isT (vT a b c : Nat) a b c := by
  refine ⟨⟨by omega, ?_⟩, fun j => ?_⟩
  · have : vT a b c < 2 ^ 20 := Nat.or_lt_two_pow (Nat.or_lt_two_pow (pw1_lt ha) (pw1_lt hb)) (pw1_lt hc)
    omega
  · unfold bt
    rw [Int.toNat_natCast, vT_bit]
    omega
theorem vT_big {b c : Nat} : 1048576 ≤ vT 21 b c := Nat.ge_two_pow_of_testBit (i := 20) ((vT_bit 21 b c 20).mpr (Or.inl rfl))
theorem bXor_nat {a b : Nat} (h : a ^^^ b < 2 ^ 31) : bXor a b = ((a ^^^ b : Nat) : Int) := by
  unfold bXor
  refine Eq.trans (congrArg Int32.toInt (a₂ := nI (a ^^^ b)) ?_) (nI_toInt h)
  rw [ofInt_nat, ofInt_nat]
  apply Int32.toBitVec_inj.mp
  apply BitVec.eq_of_toNat_eq
  show (BitVec.ofNat 32 a ^^^ BitVec.ofNat 32 b).toNat = (BitVec.ofNat 32 (a ^^^ b)).toNat
  rw [BitVec.toNat_xor, BitVec.toNat_ofNat, BitVec.toNat_ofNat, BitVec.toNat_ofNat, Nat.xor_mod_two_pow]
theorem bAnd_neg {x : Nat} (x0 : 0 < x) (h : x < 2 ^ 31) : bAnd (x : Int) (0 - (x : Int)) = ((x &&& (4294967296 - x) : Nat) : Int) := by
  unfold bAnd
  have hle : x &&& (4294967296 - x) ≤ x := Nat.and_le_left
  rw [ofInt_nat, ofInt_neg x x0 (by omega), nI_and, show (2 : Nat) ^ 32 = 4294967296 by rfl, nI_toInt (by omega)]
theorem m_next0 {fr : Nat} {m : Int} {x : Nat} {h : AH} (x0 : 0 < x) (x1 : x < 2 ^ 20) (rm : R32 m) (f1 : stp 32 (x ^^^ gup x) % 2 = 1) (f2 : stp 32 (x ^^^ gup x) < 4294967296) (f3 : 2 ≤ bln 32 (stp 32 (x ^^^ gup x))) (f4 : bln 32 (stp 32 (x ^^^ gup x)) ≤ 24) (f5 : x ^^^ gup x < 4194304) (f6 : gup x < 4194304) (f7 : gos x < 4194304) :
    Sp mX12_next0 true fr 0 0 [zI x, zI m] 137 h (rI (fun r h' => h' = h ∧ r = (gos x : Nat))) := by
  refine Sp.mk yX12_next0_ok rfl rfl ?_
  refine bX12_next0_0 (kt := fun _ => ?_) (kf := fun q => by omega)
  refine bX12_next0_20 (kk := ?_)
  rw [bAnd_neg x0 (by omega)]
  have e1 : (x : Int) + ((x &&& (4294967296 - x) : Nat) : Int) = ((gup x : Nat) : Int) := by unfold gup; omega
  rw [e1, bXor_nat (by omega)]
  have fin : ∀ n : Nat, n = bln 32 (stp 32 (x ^^^ gup x)) → ∀ x0 x1 x2 x4 : AV, Wp mX12_next0 (kR fr 0 0) (rI (fun r h' => h' = h ∧ r = (gos x : Nat))) (0, 0) 70 [x0, x1, x2, zI (gup x : Nat), x4, zI n] [] 137 h := fun n hn x0 x1 x2 x4 => by
    refine bX12_next0_70 (hq := ⟨_, rfl, rfl, rfl, ?_⟩)
    have e2 : (1 : Int) * 2 ^ ((n : Int) - 2).toNat - 1 = ((2 ^ (n - 2) - 1 : Nat) : Int) := by
      rw [Int.one_mul, show ((n : Int) - 2).toNat = n - 2 by omega, pow_nat]
      have : 0 < 2 ^ (n - 2) := Nat.pow_pos (by decide)
      omega
    have e3 : gup x ||| (2 ^ (n - 2) - 1) = gos x := by unfold gos; rw [hn]
    rw [e2, bOr_nat (by omega), e3]
  have L2 : ∀ (f y n : Nat), y < 2 ^ f → y < 2147483648 → n + bln f y = bln 32 (stp 32 (x ^^^ gup x)) → ∀ x0 x1 x2 : AV, Wp mX12_next0 (kR fr 0 0) (rI (fun r h' => h' = h ∧ r = (gos x : Nat))) (0, 0) 53 [x0, x1, x2, zI (gup x : Nat), zI y, zI n] [] 137 h := by
    intro f
    induction f with
    | zero =>
      intro y n hy _ hn x0 x1 x2
      have : y = 0 := by omega
      subst this
      exact bX12_next0_53 (kt := fun _ => fin n (by rw [← hn]; rfl) _ _ _ _) (kf := fun q => absurd rfl q)
    | succ f ih =>
      intro y n hy y31 hn x0 x1 x2
      by_cases e : y = 0
      · subst e
        exact bX12_next0_53 (kt := fun _ => fin n (by rw [← hn, bln, if_pos rfl]; rfl) _ _ _ _) (kf := fun q => absurd rfl q)
      · rw [bln, if_neg e] at hn
        refine bX12_next0_53 (kt := fun q => by omega) (kf := fun _ => ?_)
        refine bX12_next0_58 (kk := ?_)
        rw [show (y : Int) / 2 ^ (1 : Int).toNat = ((y / 2 : Nat) : Int) by show (y : Int) / 2 ^ 1 = _; omega, show (n : Int) + 1 = ((n + 1 : Nat) : Int) by omega]
        rw [Nat.pow_succ] at hy
        exact ih (y / 2) (n + 1) (by omega) (by omega) (by omega) _ _ _
  suffices L1 : ∀ (f y : Nat), y < 2147483648 → stp f y = stp 32 (x ^^^ gup x) → ∀ x0 x1 x2 : AV, Wp mX12_next0 (kR fr 0 0) (rI (fun r h' => h' = h ∧ r = (gos x : Nat))) (0, 0) 37 [x0, x1, x2, zI (gup x : Nat), zI y, zI 0] [] 137 h by
    exact L1 32 (x ^^^ gup x) (by omega) rfl _ _ _
  intro f
  induction f with
  | zero =>
    intro y y31 hy x0 x1 x2
    have ey : y = stp 32 (x ^^^ gup x) := hy
    have eb := bAnd_one (x := (y : Int)) (by omega)
    refine bX12_next0_37 (r1 := by rw [eb]; omega) (kt := fun _ => ?_) (kf := fun q => by rw [eb] at q; omega)
    exact L2 32 y 0 (by omega) y31 (by rw [ey]; omega) _ _ _
  | succ f ih =>
    intro y y31 hy x0 x1 x2
    have eb := bAnd_one (x := (y : Int)) (by omega)
    by_cases e : y % 2 = 0
    · rw [stp, if_pos e] at hy
      refine bX12_next0_37 (r1 := by rw [eb]; omega) (kt := fun q => by rw [eb] at q; omega) (kf := fun _ => ?_)
      refine bX12_next0_44 (kk := ?_)
      rw [show (y : Int) / 2 ^ (1 : Int).toNat = ((y / 2 : Nat) : Int) by show (y : Int) / 2 ^ 1 = _; omega]
      exact ih (y / 2) (by omega) hy _ _ _
    · rw [stp, if_neg e] at hy
      refine bX12_next0_37 (r1 := by rw [eb]; omega) (kt := fun _ => ?_) (kf := fun q => by rw [eb] at q; omega)
      exact L2 32 y 0 (by omega) y31 (by rw [hy]; omega) _ _ _
theorem m_next00 {fr : Nat} {m : Int} {h : AH} (hm : 0 ≤ m ∧ m ≤ 3) : Sp mX12_next0 true fr 0 0 [zI 0, zI m] 137 h (rI (fun r h' => h' = h ∧ ((m = 0 ∧ r = 1048576) ∨ (m = 1 ∧ r = 1) ∨ (m = 2 ∧ r = 3) ∨ (m = 3 ∧ r = 7)))) := by
  refine Sp.mk yX12_next0_ok rfl rfl ?_
  refine bX12_next0_0 (kt := fun q => absurd rfl q) (kf := fun _ => ?_)
  refine bX12_next0_4 (kt := fun q => ?_) (kf := fun q => ?_)
  · refine bX12_next0_14 (kk := bX12_next0_19 (hq := ⟨_, rfl, rfl, rfl, ?_⟩))
    rcases (show m = 1 ∨ m = 2 ∨ m = 3 by omega) with e | e | e <;> subst e
    · exact Or.inr (Or.inl ⟨rfl, by decide⟩)
    · exact Or.inr (Or.inr (Or.inl ⟨rfl, by decide⟩))
    · exact Or.inr (Or.inr (Or.inr ⟨rfl, by decide⟩))
  · exact bX12_next0_8 (kk := bX12_next0_19 (hq := ⟨_, rfl, rfl, rfl, Or.inl ⟨q, rfl⟩⟩))
/-! ===== the model: saysBy ===== -/
theorem m_saysBy {fr : Nat} {s t0 y sh : Int} {h : AH} (hf : 1 ≤ fr) (hd : okD (dM h)) (hs : 0 ≤ s ∧ s < h 98 1) (ht : 0 ≤ t0 ∧ t0 < 400) (hr : 0 ≤ h 98 45 ∧ h 98 45 ≤ 400) (hy : m20 y) (hsh : 0 ≤ sh ∧ sh ≤ 100) :
    Sp mX12_saysBy true fr 0 0 [zR 98, zI s, zI t0, zI y, zI sh] 137 h (rV (fun h' => grown h h' s t0 (ampY (dM h 1) (thT (dM h) sh (h 104 12)) y s))) := by
  refine Sp.mk yX12_saysBy_ok rfl rfl ?_
  have y0 := hy.1
  have y1 := hy.2
  have hS8 : h 98 1 ≤ 8 := hd.1.2
  have hsr : (1 ≤ h 99 (2 * s) ∧ h 99 (2 * s) ≤ 99) := (hd.2.2.2.2.2.2.2.1 s hs.1 hs.2).1
  have hai : 0 ≤ h 104 12 ∧ h 104 12 ≤ 100 := hd.2.2.2.2.2.2.2.2.2.2.2.2.1 12 (by decide) (by decide)
  have m1 := mul_rng (a := h 99 (2 * s)) (b := sh) (by omega) hsr.2 hsh.1 hsh.2
  have m2 := mul_rng (a := h 99 (2 * s) * sh / 100) (A := 99) (b := h 104 12) (by omega) (by omega) hai.1 hai.2
  have eL : dM h 1 s = h 99 (2 * s) := rfl
  have eT : thT (dM h) sh (h 104 12) s = h 99 (2 * s) * sh / 100 * h 104 12 / 100 := rfl
  refine bX12_saysBy_0 (hS := m_comes ⟨hs.1, by omega⟩ ⟨by omega, by omega⟩ hr) (kk := ?_)
  intro h1 h01
  have G0 := grown_s (x := h 99 (2 * s)) (δ := 0) ⟨hs.1, by omega⟩ (grown_0 h s t0) (by rw [Int.add_zero]; exact h01)
  refine bX12_saysBy_14 (kk := ?_)
  suffices L : ∀ (dk k : Nat) (h1 : AH), k + dk = 21 → 1 ≤ k → grown h h1 s t0 (fun d => (if d = 0 then h 99 (2 * s) else 0) + (if (1 ≤ d ∧ d < k) ∧ bt y (d - 1).toNat = true then h 99 (2 * s) * sh / 100 * h 104 12 / 100 else 0)) → Wp mX12_saysBy (kR fr 0 0) (rV (fun h' => grown h h' s t0 (ampY (dM h 1) (thT (dM h) sh (h 104 12)) y s))) (0, 0) 17 [zR 98, zI s, zI t0, zI y, zI sh, zI k] [] 137 h1 by
    refine L 20 1 h1 (by omega) (by omega) (grown_eq G0 (fun d => ?_))
    rw [if_neg (c := (1 ≤ d ∧ d < ((1 : Nat) : Int)) ∧ bt y (d - 1).toNat = true) (fun z => by omega)]
    omega
  intro dk
  induction dk with
  | zero =>
    intro k h1 hk k1 G
    refine bX12_saysBy_17 (kt := fun _ => ?_) (kf := fun q => by omega)
    refine bX12_saysBy_76 (hq := ⟨rfl, rfl, grown_eq G (fun d => ?_)⟩)
    unfold ampY
    rw [eL, eT]
    congr 1
    by_cases z : 1 ≤ d ∧ bt y (d - 1).toNat = true
    · have := bit_lt20 hy z.2
      rw [if_pos z, if_pos ⟨⟨z.1, by omega⟩, z.2⟩]
    · rw [if_neg z, if_neg (fun w => z ⟨w.1.1, w.2⟩)]
  | succ dk ih =>
    intro k h1 hk k1 G
    have e98 : h1 98 = h 98 := G.1 98 (by decide)
    have e99 : h1 99 = h 99 := G.1 99 (by decide)
    have e104 : h1 104 = h 104 := G.1 104 (by decide)
    refine bX12_saysBy_17 (kt := fun q => by omega) (kf := fun _ => ?_)
    have el := bit_look (x := y) (s := (k : Int) - 1) y0 (by omega)
    have er : -2147483648 ≤ bAnd (y / 2 ^ ((k : Int) - 1).toNat) 1 ∧ bAnd (y / 2 ^ ((k : Int) - 1).toNat) 1 < 2147483648 := by rw [el]; split <;> decide
    refine bX12_saysBy_24 (r3 := er) (kt := fun q => ?_) (kf := fun q => ?_)
    · rw [el] at q
      have nb : ¬ bt y ((k : Int) - 1).toNat = true := fun z => q (if_pos z)
      refine bX12_saysBy_70 (kk := ih (k + 1) h1 (by omega) (by omega) (grown_eq G (fun d => ?_)))
      congr 1
      by_cases z : (1 ≤ d ∧ d < (k : Int)) ∧ bt y (d - 1).toNat = true
      · rw [if_pos z, if_pos ⟨⟨z.1.1, by omega⟩, z.2⟩]
      · rw [if_neg z, if_neg]
        rintro ⟨w1, w2⟩
        by_cases e : d = k
        · rw [e] at w2; exact nb w2
        · exact z ⟨⟨w1.1, by omega⟩, w2⟩
    · rw [el] at q
      have nb : bt y ((k : Int) - 1).toNat = true := by
        by_cases z : bt y ((k : Int) - 1).toNat = true
        · exact z
        · rw [if_neg z] at q; omega
      refine bX12_saysBy_36 (r2 := by rw [e99]; omega) (r3 := by rw [e99, e104]; omega) (hS := m_comes ⟨hs.1, by omega⟩ ⟨by omega, by omega⟩ (by rw [e98]; exact hr)) (kk := ?_)
      intro h2 h12
      rw [e99, e104] at h12
      have G2 := grown_s ⟨hs.1, by omega⟩ G h12
      refine bX12_saysBy_70 (kk := ih (k + 1) h2 (by omega) (by omega) (grown_eq G2 (fun d => ?_)))
      by_cases e : d = k
      · rw [if_pos (c := d = (k : Int)) e, if_neg (c := (1 ≤ d ∧ d < (k : Int)) ∧ bt y (d - 1).toNat = true) (fun z => by omega), if_pos (c := (1 ≤ d ∧ d < ((k + 1 : Nat) : Int)) ∧ bt y (d - 1).toNat = true) ⟨⟨by omega, by omega⟩, by rw [e]; exact nb⟩]
        omega
      · rw [if_neg (c := d = (k : Int)) e, Int.add_zero]
        congr 1
        by_cases z : (1 ≤ d ∧ d < (k : Int)) ∧ bt y (d - 1).toNat = true
        · rw [if_pos z, if_pos ⟨⟨z.1.1, by omega⟩, z.2⟩]
        · rw [if_neg z, if_neg (fun w => z ⟨⟨w.1.1, by omega⟩, w.2⟩)]
