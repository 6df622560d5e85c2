/-! ===== which lines answer: words ===== -/
noncomputable abbrev heD (D : DT) (A : Int → Int → Int) (S : Int → Int) (n : Int) : Int → Int := hearF (lamT A S n) (D 0 0) (D 0 4) (D 0 5) (D 0 6)
/-- the line i of the form f, what is said and what returns -/
def lineR (D : DT) (A : Int → Int → Int) (f i : Int) (W S B : Int → Int) (n : Int) : Prop := lineW D f i W ∧ isSay D W (D 13 f).toNat S ∧ isRet (heD D A S (preW D W (D 13 f).toNat)) (preW D W (D 13 f).toNat) B n
def Ans (D : DT) (A : Int → Int → Int) (f i : Int) : Prop := ∃ W S B n, lineR D A f i W S B n ∧ isLineB D B n
def Ech (D : DT) (A : Int → Int → Int) (f i : Int) : Prop := ∃ W S B n, lineR D A f i W S B n ∧ D 11 (W (D 13 f - 1)) = n ∧ fitW D B (W (D 13 f - 1)) 0
theorem lineW.one {D : DT} {f i : Int} {W V : Int → Int} (h1 : lineW D f i W) (h2 : lineW D f i V) : ∀ k, 0 ≤ k → k < D 13 f → W k = V k := fun k a b => by
  obtain ⟨p1, p2, p3⟩ := h1 k a b
  obtain ⟨q1, q2, q3⟩ := h2 k a b
  have t1 : kp_ D (D 14 (f * 3 + k)) (W k).toNat = true := decide_eq_true (by rw [show (((W k).toNat : Nat) : Int) = W k by omega]; exact p2)
  have t2 : kp_ D (D 14 (f * 3 + k)) (V k).toNat = true := decide_eq_true (by rw [show (((V k).toNat : Nat) : Int) = V k by omega]; exact q2)
  have := nth_one t1 t2 (by rw [p3, q3])
  omega
theorem lineW.in_ {D : DT} {f i : Int} {W : Int → Int} (h : lineW D f i W) : ∀ k : Nat, k < (D 13 f).toNat → 0 ≤ W k ∧ W k < D 0 2 := fun k hk => (h k (by omega) (by omega)).1
theorem isSay.hit {D : DT} {W : Int → Int} : ∀ {k : Nat} {u : Int}, 0 ≤ u → u < preW D W k → ∃ j : Nat, j < k ∧ ∃ x, (0 ≤ x ∧ x < D 11 (W j)) ∧ u = preW D W j + x
  | 0, u, a, b => by have : preW D W 0 = 0 := rfl; omega
  | k + 1, u, a, b => by
    have e : preW D W (k + 1) = preW D W k + D 11 (W k) := rfl
    by_cases c : u < preW D W k
    · obtain ⟨j, p, q⟩ := isSay.hit a c
      exact ⟨j, by omega, q⟩
    · exact ⟨k, by omega, u - preW D W k, by omega, by omega⟩
theorem isSay.one {D : DT} {W V S T : Int → Int} {L : Nat} (e : ∀ k : Nat, k < L → W k = V k) (h1 : isSay D W L S) (h2 : isSay D V L T) : ∀ u, 0 ≤ u → u < preW D W L → S u = T u := fun u a b => by
  obtain ⟨j, p, x, q, r⟩ := isSay.hit a b
  have e1 := h1 j p x q.1 q.2
  have e2 := h2 j p x q.1 (by rw [← e j p]; exact q.2)
  rw [← preW_cong (W := W) (V := V) (fun i hi => e i (by omega)), ← e j p] at e2
  rw [r, e1, e2]
theorem lineR.one {D : DT} {A : Int → Int → Int} {f i n m : Int} {W S B V T C : Int → Int} (h1 : lineR D A f i W S B n) (h2 : lineR D A f i V T C m) : (∀ k, 0 ≤ k → k < D 13 f → W k = V k) ∧ n = m ∧ ∀ j, 0 ≤ j → j < n → B j = C j := by
  have eW := lineW.one h1.1 h2.1
  have eW' : ∀ k : Nat, k < (D 13 f).toNat → W k = V k := fun k hk => eW k (by omega) (by omega)
  have eP : preW D W (D 13 f).toNat = preW D V (D 13 f).toNat := preW_cong (fun k hk => eW' k hk)
  have eS := isSay.one eW' h1.2.1 h2.2.1
  refine ⟨eW, ?_⟩
  have eH : heD D A S (preW D W (D 13 f).toNat) = heD D A T (preW D V (D 13 f).toNat) := by
    have eL : lamT A S (preW D W (D 13 f).toNat) = lamT A T (preW D V (D 13 f).toNat) := by
      funext t s
      rw [← eP]
      refine sg_cong (fun k hk => ?_)
      show (if s = S k then A s (t - k) else 0) = if s = T k then A s (t - k) else 0
      rw [eS k (by omega) (by omega)]
    unfold heD
    rw [eL]
  have r1 := h1.2.2
  rw [eH, eP] at r1
  exact r1.one h2.2.2
theorem isRet.n0 {H : Int → Int} {a n : Int} {B : Int → Int} (h : isRet H a B n) : 0 ≤ n := by rw [h.1]; exact (cnt_rng _ _).1
theorem Ans_iff {D : DT} {A : Int → Int → Int} {f i n : Int} {W S B : Int → Int} (hd : okD D) (h : lineR D A f i W S B n) : Ans D A f i ↔ isLineB D B n := by
  constructor
  · rintro ⟨V, T, C, m, h2, h3⟩
    obtain ⟨-, rfl, e⟩ := h.one h2
    exact h3.cong hd h.2.2.n0 (fun j a b => (e j a b).symm)
  · exact fun z => ⟨W, S, B, n, h, z⟩
theorem Ech_iff {D : DT} {A : Int → Int → Int} {f i n : Int} {W S B : Int → Int} (hf : 1 ≤ D 13 f) (h : lineR D A f i W S B n) : Ech D A f i ↔ (D 11 (W (D 13 f - 1)) = n ∧ fitW D B (W (D 13 f - 1)) 0) := by
  constructor
  · rintro ⟨V, T, C, m, h2, h3, h4⟩
    obtain ⟨eW, rfl, e⟩ := h.one h2
    rw [eW _ (by omega) (by omega)]
    exact ⟨h3, h4.cong (fun j a b => (e j a b).symm) (by decide) (by omega)⟩
  · exact fun z => ⟨W, S, B, n, h, z⟩
theorem lineW.reach {D : DT} {f i : Int} {W : Int → Int} (h : lineW D f i W) : ∀ k : Nat, k ≤ (D 13 f).toNat → reachL D f k (preW D W k)
  | 0, _ => rfl
  | k + 1, hk => by
    have a := h k (by omega) (by omega)
    exact ⟨W k, preW D W k, a.1, a.2.1, lineW.reach h k (by omega), rfl⟩
/-- more than the longest line returns: no line, no echo -/
theorem too_long {D : DT} {A : Int → Int → Int} {f i lo : Int} {W S : Int → Int} (hd : okD D) (f0 : 0 ≤ f) (f1 : f < D 0 3) (hW : lineW D f i W) (hS : isSay D W (D 13 f).toNat S) (hlo : ∀ g p, 0 ≤ g → g < D 0 3 → reachL D g (D 13 g).toNat p → p ≤ lo) (hl : lo < cH (heD D A S (preW D W (D 13 f).toNat)) (preW D W (D 13 f).toNat) 160) : ¬ Ans D A f i ∧ ¬ Ech D A f i := by
  have L := (hd.2.2.2.2.2.2.2.2.2.2.2.2.2.2 f f0 f1).1
  have big : ∀ V T C m, lineR D A f i V T C m → lo < m ∧ ∀ k, 0 ≤ k → k < D 13 f → W k = V k := fun V T C m h => by
    have eW := lineW.one hW h.1
    have eW' : ∀ k : Nat, k < (D 13 f).toNat → W k = V k := fun k hk => eW k (by omega) (by omega)
    have eP : preW D W (D 13 f).toNat = preW D V (D 13 f).toNat := preW_cong (fun k hk => eW' k hk)
    have eS := isSay.one eW' hS h.2.1
    have eL : lamT A S (preW D W (D 13 f).toNat) = lamT A T (preW D V (D 13 f).toNat) := by
      funext t s
      rw [← eP]
      refine sg_cong (fun k hk => ?_)
      show (if s = S k then A s (t - k) else 0) = if s = T k then A s (t - k) else 0
      rw [eS k (by omega) (by omega)]
    have := h.2.2.1
    unfold heD at this hl
    rw [← eL, ← eP] at this
    rw [this]
    exact ⟨hl, eW⟩
  refine ⟨?_, ?_⟩
  · rintro ⟨V, T, C, m, h, g, a, b⟩
    have := (big V T C m h).1
    have := hlo g m a.1 a.2 b.len
    omega
  · rintro ⟨V, T, C, m, h, h2, -⟩
    obtain ⟨b1, b2⟩ := big V T C m h
    have p := hlo f _ f0 f1 (hW.reach (D 13 f).toNat (by omega))
    obtain ⟨k, hk⟩ : ∃ k : Nat, (D 13 f).toNat = k + 1 := ⟨(D 13 f).toNat - 1, by omega⟩
    rw [hk] at p
    have e : preW D W (k + 1) = preW D W k + D 11 (W k) := rfl
    have q := preW_rng hd hW.in_ k (by omega)
    have ek : ((k : Nat) : Int) = D 13 f - 1 := by omega
    rw [e, ek] at p
    rw [← b2 _ (by omega) (by omega)] at h2
    omega
/-- bits of an int, also below 0 -/
def btu (v : Int) (j : Nat) : Bool := (BitVec.ofInt 32 v).getLsbD j
theorem and1_any (x : Int) : bAnd x 1 = x % 2 := by
  have hb : (BitVec.ofInt 32 x &&& BitVec.ofInt 32 1).toNat = (x % 4294967296).toNat % 2 := by
    rw [BitVec.toNat_and, BitVec.toNat_ofInt, BitVec.toNat_ofInt]
    show ((x % 4294967296).toNat &&& 1) = _
    exact Nat.and_one_is_mod _
  show BitVec.toInt (BitVec.ofInt 32 x &&& BitVec.ofInt 32 1) = x % 2
  rw [BitVec.toInt_eq_toNat_of_lt (by rw [hb]; omega), hb]
  omega
theorem btu_or (v w : Int) (j : Nat) : btu (bOr v w) j = (btu v j || btu w j) := by
  have e : BitVec.ofInt 32 (bOr v w) = BitVec.ofInt 32 v ||| BitVec.ofInt 32 w := by
    show BitVec.ofInt 32 (BitVec.toInt (BitVec.ofInt 32 v ||| BitVec.ofInt 32 w)) = _
    exact BitVec.ofInt_toInt
  unfold btu
  rw [e, BitVec.getLsbD_or]
theorem btu_one {s : Nat} (hs : s < 32) (j : Nat) : btu (1 * 2 ^ s) j = decide (j = s) := by
  unfold btu
  have e : BitVec.ofInt 32 (1 * 2 ^ s) = BitVec.ofNat 32 (2 ^ s) := by
    rw [Int.one_mul, pow_nat]; rfl
  rw [e, BitVec.getLsbD_ofNat, Nat.testBit_two_pow]
  by_cases c : j = s
  · rw [c, decide_eq_true rfl, decide_eq_true hs]; rfl
  · rw [decide_eq_false c, decide_eq_false (Ne.symm c), Bool.and_false]
theorem btu_zero (j : Nat) : btu 0 j = false := by
  unfold btu
  rw [show BitVec.ofInt 32 0 = 0#32 by rfl, BitVec.getLsbD_zero]
theorem btu_look {v : Int} {j : Nat} (hj : j < 32) : bAnd (v / 2 ^ j) 1 = if btu v j = true then 1 else 0 := by
  rw [and1_any]
  have hb : btu v j = decide ((v % 4294967296).toNat / 2 ^ j % 2 = 1) := by
    unfold btu
    rw [BitVec.getLsbD, BitVec.toNat_ofInt, Nat.testBit_eq_decide_div_mod_eq]
    rfl
  have p1 : (4294967296 : Int) = 2 ^ j * (2 * 2 ^ (31 - j)) := by
    have : 2 ^ j * (2 * 2 ^ (31 - j)) = 4294967296 := by
      rw [show (2 : Nat) * 2 ^ (31 - j) = 2 ^ (32 - j) by rw [← Nat.pow_succ', show (31 - j).succ = 32 - j by omega], ← Nat.pow_add, show j + (32 - j) = 32 by omega]
    rw [pow_nat, pow_nat]
    generalize (2 ^ j : Nat) = a at this
    generalize (2 ^ (31 - j) : Nat) = b at this
    have q : ((a * (2 * b) : Nat) : Int) = ((4294967296 : Nat) : Int) := by rw [this]
    rw [Int.natCast_mul, Int.natCast_mul] at q
    exact q.symm
  have u0 : 0 ≤ v % 4294967296 := Int.emod_nonneg _ (by decide)
  have ev : v = v % 4294967296 + 2 ^ j * ((2 * 2 ^ (31 - j)) * (v / 4294967296)) := by
    rw [← Int.mul_assoc, ← p1]
    have := Int.emod_add_mul_ediv v 4294967296
    omega
  have pj : (2 : Int) ^ j ≠ 0 := by rw [pow_nat]; have := Nat.pow_pos (n := j) (show 0 < 2 by decide); omega
  have e2 : v / 2 ^ j = (v % 4294967296) / 2 ^ j + 2 * (2 ^ (31 - j) * (v / 4294967296)) := by
    rw [← Int.mul_assoc]
    conv => lhs; rw [ev]
    exact Int.add_mul_ediv_left _ _ pj
  have e3 : (v % 4294967296) / 2 ^ j = (((v % 4294967296).toNat / 2 ^ j : Nat) : Int) := by
    have : v % 4294967296 = (((v % 4294967296).toNat : Nat) : Int) := by omega
    conv => lhs; rw [this]
    push_cast
    rfl
  rw [e2, e3, hb]
  by_cases c : (v % 4294967296).toNat / 2 ^ j % 2 = 1
  · rw [if_pos (decide_eq_true c)]; omega
  · rw [if_neg (by rw [decide_eq_false c]; decide)]; omega
theorem bOr_rng (v w : Int) : -2147483648 ≤ bOr v w ∧ bOr v w < 2147483648 := by
  unfold bOr
  exact ⟨Int32.minValue_le_toInt _, Int32.toInt_lt _⟩
